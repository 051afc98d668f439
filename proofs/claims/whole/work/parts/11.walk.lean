section X_LK_spillToSea
variable {p : Program} {l : Launch} {e : Env} {s : State} {m : MethodId} {args : Array Value} {below : List Frame} {meth : Method} {c : Code} {Q : State → Prop}
variable {D : va_G} {adr : Nat → Nat} {cA : Nat → ClassId} {μ ν : Mem}
theorem d_LK_spillToSea_0 : decode prog_3_method_10_code 0 = .ok (.aload_n 0, 1) := by decide +kernel
theorem d_LK_spillToSea_1 : decode prog_3_method_10_code 1 = .ok (.dup, 1) := by decide +kernel
theorem d_LK_spillToSea_2 : decode prog_3_method_10_code 2 = .ok (.getfield 33, 3) := by decide +kernel
theorem d_LK_spillToSea_5 : decode prog_3_method_10_code 5 = .ok (.iload_n 3, 1) := by decide +kernel
theorem d_LK_spillToSea_6 : decode prog_3_method_10_code 6 = .ok (.invokestatic 102, 3) := by decide +kernel
theorem d_LK_spillToSea_9 : decode prog_3_method_10_code 9 = .ok (.lor, 1) := by decide +kernel
theorem d_LK_spillToSea_10 : decode prog_3_method_10_code 10 = .ok (.putfield 33, 3) := by decide +kernel
theorem d_LK_spillToSea_13 : decode prog_3_method_10_code 13 = .ok (.iconst 0, 1) := by decide +kernel
theorem d_LK_spillToSea_14 : decode prog_3_method_10_code 14 = .ok (.istore 4, 2) := by decide +kernel
theorem d_LK_spillToSea_16 : decode prog_3_method_10_code 16 = .ok (.iload 4, 2) := by decide +kernel
theorem d_LK_spillToSea_18 : decode prog_3_method_10_code 18 = .ok (.aload_n 0, 1) := by decide +kernel
theorem d_LK_spillToSea_19 : decode prog_3_method_10_code 19 = .ok (.getfield 22, 3) := by decide +kernel
theorem d_LK_spillToSea_22 : decode prog_3_method_10_code 22 = .ok (.if_icmp .ge 50, 3) := by decide +kernel
theorem d_LK_spillToSea_25 : decode prog_3_method_10_code 25 = .ok (.lload_n 1, 1) := by decide +kernel
theorem d_LK_spillToSea_26 : decode prog_3_method_10_code 26 = .ok (.iload 4, 2) := by decide +kernel
theorem d_LK_spillToSea_28 : decode prog_3_method_10_code 28 = .ok (.invokestatic 123, 3) := by decide +kernel
theorem d_LK_spillToSea_31 : decode prog_3_method_10_code 31 = .ok (.ifCond .eq 35, 3) := by decide +kernel
theorem d_LK_spillToSea_34 : decode prog_3_method_10_code 34 = .ok (.aload_n 0, 1) := by decide +kernel
theorem d_LK_spillToSea_35 : decode prog_3_method_10_code 35 = .ok (.getfield 17, 3) := by decide +kernel
theorem d_LK_spillToSea_38 : decode prog_3_method_10_code 38 = .ok (.iload 4, 2) := by decide +kernel
theorem d_LK_spillToSea_40 : decode prog_3_method_10_code 40 = .ok (.aaload, 1) := by decide +kernel
theorem d_LK_spillToSea_41 : decode prog_3_method_10_code 41 = .ok (.iload_n 3, 1) := by decide +kernel
theorem d_LK_spillToSea_42 : decode prog_3_method_10_code 42 = .ok (.bipush (-5), 2) := by decide +kernel
theorem d_LK_spillToSea_44 : decode prog_3_method_10_code 44 = .ok (.invokevirtual 127, 3) := by decide +kernel
theorem d_LK_spillToSea_47 : decode prog_3_method_10_code 47 = .ok (.aload_n 0, 1) := by decide +kernel
theorem d_LK_spillToSea_48 : decode prog_3_method_10_code 48 = .ok (.dup, 1) := by decide +kernel
theorem d_LK_spillToSea_49 : decode prog_3_method_10_code 49 = .ok (.getfield 33, 3) := by decide +kernel
theorem d_LK_spillToSea_52 : decode prog_3_method_10_code 52 = .ok (.aload_n 0, 1) := by decide +kernel
theorem d_LK_spillToSea_53 : decode prog_3_method_10_code 53 = .ok (.getfield 17, 3) := by decide +kernel
theorem d_LK_spillToSea_56 : decode prog_3_method_10_code 56 = .ok (.iload 4, 2) := by decide +kernel
theorem d_LK_spillToSea_58 : decode prog_3_method_10_code 58 = .ok (.aaload, 1) := by decide +kernel
theorem d_LK_spillToSea_59 : decode prog_3_method_10_code 59 = .ok (.getfield 67, 3) := by decide +kernel
theorem d_LK_spillToSea_62 : decode prog_3_method_10_code 62 = .ok (.lor, 1) := by decide +kernel
theorem d_LK_spillToSea_63 : decode prog_3_method_10_code 63 = .ok (.putfield 33, 3) := by decide +kernel
theorem d_LK_spillToSea_66 : decode prog_3_method_10_code 66 = .ok (.iinc 4 1, 3) := by decide +kernel
theorem d_LK_spillToSea_69 : decode prog_3_method_10_code 69 = .ok (.goto (-53), 3) := by decide +kernel
theorem d_LK_spillToSea_72 : decode prog_3_method_10_code 72 = .ok (.return_, 1) := by decide +kernel
set_option maxHeartbeats 4000000 in
set_option maxRecDepth 100000 in
theorem w_LK_spillToSea_L16 (y1 : Int64) (y3 : Int32)  (C : Cx prog_3_method_10_code 5 "LakeRelief$Lakes" (Option.none : Option Jvm.ClassFile.FieldType) p s m args meth c) (hG : Geo D adr cA s) (v : Mem) (hE : ∀ (H : Heap) (locs : List Loc) (ls : Array Slot), va_P D cls (wld adr cA v ν) H → va_S (AA adr) s.heap H locs → lv_has ls 5 [] → W p l e rm_LK_spillToSea s m args below meth c H locs 0 0 Q (F0 m 72 ls [])) : ∀ (n : Nat) (μ : Mem) (y4 : Int32), f_LK_spillToSea_L16 y1 y3 n μ y4 = some v → ∀ {H : Heap} {locs : List Loc} {ls : Array Slot}, va_P D cls (wld adr cA μ ν) H → va_S (AA adr) s.heap H locs → lv_has ls 5 [(0, .ref (adr 26)), (1, .long y1), (3, .int y3), (4, .int y4)] → W p l e rm_LK_spillToSea s m args below meth c H locs 0 0 Q (F0 m 16 ls []) := by
  obtain ⟨hx, hb, hml, hown, hts, hr, hlocks⟩ := id C
  intro n
  induction n with
  | zero => intro μ y4 hf; rw [f_LK_spillToSea_L16.eq_1] at hf; cases hf
  | succ n ih =>
    intro μ y4 hf H locs ls hP hS hl
    rw [f_LK_spillToSea_L16.eq_2] at hf
    refine lv_iload hx hb d_LK_spillToSea_16 (lv_at hl 3 rfl) ?_
    refine lv_aload_n hx hb d_LK_spillToSea_18 rfl (lv_at hl 0 rfl) ?_
    refine g_LK_number hx hb hts hown hG hP (hts _ in_154) d_LK_spillToSea_19 ?_
    refine lv_icmp_ge (tgt := 72) hx hb d_LK_spillToSea_22 (by decide) (fun hc => ?_) (fun hc => ?_)
    · replace hf := if_p hc hf
      obtain rfl := Option.some.inj hf
      exact hE _ _ _ hP hS (lv_sub hl [] rfl)
    · replace hf := if_n hc hf
      refine lv_lload_n hx hb d_LK_spillToSea_25 rfl (lv_at hl 1 rfl) ?_
      refine lv_iload hx hb d_LK_spillToSea_26 (lv_at hl 3 rfl) ?_
      refine ki (kn (As := [.long y1, .int y4]) (rest := []) ⟨hx, hb, hml, hown, hts⟩ (cw_LK_123 hts hG ⟨Nat.le_of_ble_eq_true rfl, Nat.le_of_ble_eq_true rfl⟩) (c_LR_isIn l D adr cA μ ν y1 y4) hG hP rfl hl.1 (Nat.le_of_ble_eq_true rfl) d_LK_spillToSea_28) hS (fun H locs hP hS => ?_)
      replace hf := B_some hf
      obtain ⟨v1, hv1, hf⟩ := hf
      have hJ : ∀ (H : Heap) (locs : List Loc) (ls : Array Slot), va_P D cls (wld adr cA v1 ν) H → va_S (AA adr) s.heap H locs → lv_has ls 5 [(0, .ref (adr 26)), (1, .long y1), (3, .int y3), (4, .int y4)] → W p l e rm_LK_spillToSea s m args below meth c H locs 0 0 Q (F0 m 66 ls []) := by
        clear hv1
        intro H locs ls hP hS hl
        refine lv_iinc (v := (y4 + 1)) (lv' := [(4, .int (y4 + 1)), (0, .ref (adr 26)), (1, .long y1), (3, .int y3)]) hx hb d_LK_spillToSea_66 hl (k := 3) rfl rfl (by decide) rfl (fun ls hl => ?_)
        refine lv_goto (tgt := 16) hx hb d_LK_spillToSea_69 (by decide) ?_
        exact ih _ _ hf hP hS (lv_sub hl [1, 2, 3, 0] rfl)
      clear hf
      have hf := hv1
      clear hv1
      refine lv_if_eq (tgt := 66) hx hb d_LK_spillToSea_31 (by decide) (fun hc => ?_) (fun hc => ?_)
      · replace hf := if_p hc hf
        obtain rfl := Option.some.inj hf
        exact hJ _ _ _ hP hS (lv_sub hl [0, 1, 2, 3] rfl)
      · replace hf := if_n hc hf
        refine lv_aload_n hx hb d_LK_spillToSea_34 rfl (lv_at hl 0 rfl) ?_
        refine g_LK_all hx hb hts hown hG hP (hts _ in_152) d_LK_spillToSea_35 ?_
        refine lv_iload hx hb d_LK_spillToSea_38 (lv_at hl 3 rfl) ?_
        replace hf := G_some hf
        obtain ⟨hi2, hf⟩ := hf
        refine r_aLA hx hb hG hP hi2 d_LK_spillToSea_40 ?_
        refine lv_iload_n hx hb d_LK_spillToSea_41 rfl (lv_at hl 2 rfl) ?_
        refine lv_bipush (v := (-5)) hx hb d_LK_spillToSea_42 (by decide) ?_
        refine kw (kv (As := [.int y3, .int (-5)]) (rest := []) ⟨hx, hb, hml, hown, hts⟩ (cw_LK_127 hts ⟨Nat.le_of_ble_eq_true rfl, Nat.le_of_ble_eq_true rfl⟩) (c_LA_spillAt l D adr cA μ ν y4.toNatClampNeg y3 (-5) (vin_lt hi2)) hG hP (rc_o (q := (28 + y4.toNatClampNeg)) (ci := 0) hG hP (by have := (vin_lt hi2); omega) (wc_C (by have := (vin_lt hi2); omega) (sh_LA)) rfl) rfl hl.1 (Nat.le_of_ble_eq_true rfl) d_LK_spillToSea_44) hS (fun H locs hP hS => ?_)
        refine lv_aload_n hx hb d_LK_spillToSea_47 rfl (lv_at hl 0 rfl) ?_
        refine lv_dup hx hb d_LK_spillToSea_48 rfl ?_
        refine g_LK_seas hx hb hts hown hG hP (hts _ in_161) d_LK_spillToSea_49 ?_
        refine lv_aload_n hx hb d_LK_spillToSea_52 rfl (lv_at hl 0 rfl) ?_
        refine g_LK_all hx hb hts hown hG hP (hts _ in_152) d_LK_spillToSea_53 ?_
        refine lv_iload hx hb d_LK_spillToSea_56 (lv_at hl 3 rfl) ?_
        replace hf := G_some hf
        obtain ⟨hi3, hf⟩ := hf
        refine r_aLA hx hb hG hP hi3 d_LK_spillToSea_58 ?_
        refine g_LA_fields hx hb hts hown hG hP (vin_lt hi3) (hts _ in_112) d_LK_spillToSea_59 ?_
        refine lv_lor hx hb d_LK_spillToSea_62 ?_
        refine p_LK_seas hx hb hts hown hG hP hS (hts _ in_161) d_LK_spillToSea_63 (fun H locs hP hS => ?_)
        obtain rfl := Option.some.inj hf
        exact hJ _ _ _ hP hS (lv_sub hl [0, 1, 2, 3] rfl)
set_option maxHeartbeats 4000000 in
set_option maxRecDepth 100000 in
theorem w_LK_spillToSea (x1 : Int64) (x3 : Int32)  (C : Cx prog_3_method_10_code 5 "LakeRelief$Lakes" (Option.none : Option Jvm.ClassFile.FieldType) p s m args meth c) (hG : Geo D adr cA s) {res : Mem} (hf : f_LK_spillToSea μ x1 x3 = some res) (hq : ∀ (pc : Nat) (ls : Array Slot) (H : Heap) (locs : List Loc), decode prog_3_method_10_code pc = .ok (.return_, 1) → va_P D cls (wld adr cA res ν) H → va_S (AA adr) s.heap H locs → W p l e rm_LK_spillToSea s m args below meth c H locs 0 0 Q (F0 m pc ls [])) {H : Heap} {locs : List Loc} {ls : Array Slot} (hP : va_P D cls (wld adr cA μ ν) H) (hS : va_S (AA adr) s.heap H locs) (hl : lv_has ls 5 [(0, .ref (adr 26)), (1, .long x1), (3, .int x3)]) : W p l e rm_LK_spillToSea s m args below meth c H locs 0 0 Q (F0 m 0 ls []) := by
  obtain ⟨hx, hb, hml, hown, hts, hr, hlocks⟩ := id C
  unfold f_LK_spillToSea at hf
  refine lv_aload_n hx hb d_LK_spillToSea_0 rfl (lv_at hl 0 rfl) ?_
  refine lv_dup hx hb d_LK_spillToSea_1 rfl ?_
  refine g_LK_seas hx hb hts hown hG hP (hts _ in_161) d_LK_spillToSea_2 ?_
  refine lv_iload_n hx hb d_LK_spillToSea_5 rfl (lv_at hl 2 rfl) ?_
  refine kl (kn (As := [.int x3]) (rest := [.long (μ.2 26 5), .ref (adr 26)]) ⟨hx, hb, hml, hown, hts⟩ (cw_LK_102 hts hG ⟨Nat.le_of_ble_eq_true rfl, Nat.le_of_ble_eq_true rfl⟩) (c_LR_only l D adr cA μ ν x3) hG hP rfl hl.1 (Nat.le_of_ble_eq_true rfl) d_LK_spillToSea_6) hS (fun H locs hP hS => ?_)
  refine lv_lor hx hb d_LK_spillToSea_9 ?_
  refine p_LK_seas hx hb hts hown hG hP hS (hts _ in_161) d_LK_spillToSea_10 (fun H locs hP hS => ?_)
  refine lv_iconst (v := 0) hx hb d_LK_spillToSea_13 (by decide) ?_
  refine lv_istore (lv' := [(4, .int 0), (0, .ref (adr 26)), (1, .long x1), (3, .int x3)]) hx hb d_LK_spillToSea_14 hl (by decide) rfl (fun ls hl => ?_)
  replace hf := B_some hf
  obtain ⟨v4, hv4, hf⟩ := hf
  refine w_LK_spillToSea_L16 x1 x3  C hG v4 ?_ FU _ _ hv4 hP hS (lv_sub hl [1, 2, 3, 0] rfl)
  clear hv4 hP hS hl
  intro H locs ls hP hS hl
  obtain rfl := Option.some.inj hf
  exact hq _ _ _ _ d_LK_spillToSea_72 hP hS
theorem c_LK_spillToSea (l : Launch) (D : va_G) (adr : Nat → Nat) (cA : Nat → ClassId) (μ ν : Mem) (x1 : Int64) (x3 : Int32)  {res : Mem} (hf : f_LK_spillToSea μ x1 x3 = some res) : Met l y_LK_spillToSea (Cond.code y_LK_spillToSea prog_3_method_10_code 5 (Option.none : Option Jvm.ClassFile.FieldType) :: lw_ok) rm_LK_spillToSea (va_Pc [.ref (adr 26), .long x1, .int x3] (Wd D adr cA μ ν)) (QV D adr cA res ν) 0 0 (AA adr) :=
  met_of (own := "LakeRelief$Lakes") rfl rfl (Nat.le_of_ble_eq_true rfl) (fun p e s m below meth c C hG hP hS ls hl => w_LK_spillToSea x1 x3  C hG hf (fun pc ls H locs hd hP hS => ret_v C.1 C.2.1 C.2.2.2.2.2.1 C.2.2.2.2.2.2 hG hd hP hS) hP hS hl)
end X_LK_spillToSea
section X_LK_make
variable {p : Program} {l : Launch} {e : Env} {s : State} {m : MethodId} {args : Array Value} {below : List Frame} {meth : Method} {c : Code} {Q : State → Prop}
variable {D : va_G} {adr : Nat → Nat} {cA : Nat → ClassId} {μ ν : Mem}
theorem d_LK_make_0 : decode prog_3_method_13_code 0 = .ok (.aload_n 0, 1) := by decide +kernel
theorem d_LK_make_1 : decode prog_3_method_13_code 1 = .ok (.getfield 22, 3) := by decide +kernel
theorem d_LK_make_4 : decode prog_3_method_13_code 4 = .ok (.bipush 35, 2) := by decide +kernel
theorem d_LK_make_6 : decode prog_3_method_13_code 6 = .ok (.if_icmp .lt 6, 3) := by decide +kernel
theorem d_LK_make_9 : decode prog_3_method_13_code 9 = .ok (.bipush (-3), 2) := by decide +kernel
theorem d_LK_make_11 : decode prog_3_method_13_code 11 = .ok (.ireturn, 1) := by decide +kernel
theorem d_LK_make_12 : decode prog_3_method_13_code 12 = .ok (.aload_n 0, 1) := by decide +kernel
theorem d_LK_make_13 : decode prog_3_method_13_code 13 = .ok (.getfield 22, 3) := by decide +kernel
theorem d_LK_make_16 : decode prog_3_method_13_code 16 = .ok (.istore 5, 2) := by decide +kernel
theorem d_LK_make_18 : decode prog_3_method_13_code 18 = .ok (.aload_n 0, 1) := by decide +kernel
theorem d_LK_make_19 : decode prog_3_method_13_code 19 = .ok (.getfield 17, 3) := by decide +kernel
theorem d_LK_make_22 : decode prog_3_method_13_code 22 = .ok (.iload 5, 2) := by decide +kernel
theorem d_LK_make_24 : decode prog_3_method_13_code 24 = .ok (.aaload, 1) := by decide +kernel
theorem d_LK_make_25 : decode prog_3_method_13_code 25 = .ok (.lload_n 1, 1) := by decide +kernel
theorem d_LK_make_26 : decode prog_3_method_13_code 26 = .ok (.iload_n 3, 1) := by decide +kernel
theorem d_LK_make_27 : decode prog_3_method_13_code 27 = .ok (.iload 4, 2) := by decide +kernel
theorem d_LK_make_29 : decode prog_3_method_13_code 29 = .ok (.invokevirtual 135, 3) := by decide +kernel
theorem d_LK_make_32 : decode prog_3_method_13_code 32 = .ok (.aload_n 0, 1) := by decide +kernel
theorem d_LK_make_33 : decode prog_3_method_13_code 33 = .ok (.dup, 1) := by decide +kernel
theorem d_LK_make_34 : decode prog_3_method_13_code 34 = .ok (.getfield 22, 3) := by decide +kernel
theorem d_LK_make_37 : decode prog_3_method_13_code 37 = .ok (.iconst 1, 1) := by decide +kernel
theorem d_LK_make_38 : decode prog_3_method_13_code 38 = .ok (.iadd, 1) := by decide +kernel
theorem d_LK_make_39 : decode prog_3_method_13_code 39 = .ok (.putfield 22, 3) := by decide +kernel
theorem d_LK_make_42 : decode prog_3_method_13_code 42 = .ok (.iload 5, 2) := by decide +kernel
theorem d_LK_make_44 : decode prog_3_method_13_code 44 = .ok (.ireturn, 1) := by decide +kernel
set_option maxHeartbeats 4000000 in
set_option maxRecDepth 100000 in
theorem w_LK_make (x1 : Int64) (x3 : Int32) (x4 : Int32)  (C : Cx prog_3_method_13_code 6 "LakeRelief$Lakes" (Option.some Jvm.ClassFile.FieldType.int) p s m args meth c) (hG : Geo D adr cA s) {res : Int32 × Mem} (hf : f_LK_make μ x1 x3 x4 = some res) (hq : ∀ (pc : Nat) (ls : Array Slot) (H : Heap) (locs : List Loc), decode prog_3_method_13_code pc = .ok (.ireturn, 1) → va_P D cls (wld adr cA res.2 ν) H → va_S (AA adr) s.heap H locs → W p l e rm_LK_make s m args below meth c H locs 0 0 Q (F0 m pc ls [.int res.1])) {H : Heap} {locs : List Loc} {ls : Array Slot} (hP : va_P D cls (wld adr cA μ ν) H) (hS : va_S (AA adr) s.heap H locs) (hl : lv_has ls 6 [(0, .ref (adr 26)), (1, .long x1), (3, .int x3), (4, .int x4)]) : W p l e rm_LK_make s m args below meth c H locs 0 0 Q (F0 m 0 ls []) := by
  obtain ⟨hx, hb, hml, hown, hts, hr, hlocks⟩ := id C
  unfold f_LK_make at hf
  refine lv_aload_n hx hb d_LK_make_0 rfl (lv_at hl 0 rfl) ?_
  refine g_LK_number hx hb hts hown hG hP (hts _ in_154) d_LK_make_1 ?_
  refine lv_bipush (v := 35) hx hb d_LK_make_4 (by decide) ?_
  refine lv_icmp_lt (tgt := 12) hx hb d_LK_make_6 (by decide) (fun hc => ?_) (fun hc => ?_)
  · replace hf := if_p hc hf
    refine lv_aload_n hx hb d_LK_make_12 rfl (lv_at hl 0 rfl) ?_
    refine g_LK_number hx hb hts hown hG hP (hts _ in_154) d_LK_make_13 ?_
    refine lv_istore (lv' := [(5, .int (μ.1 26 1)), (0, .ref (adr 26)), (1, .long x1), (3, .int x3), (4, .int x4)]) hx hb d_LK_make_16 hl (by decide) rfl (fun ls hl => ?_)
    refine lv_aload_n hx hb d_LK_make_18 rfl (lv_at hl 1 rfl) ?_
    refine g_LK_all hx hb hts hown hG hP (hts _ in_152) d_LK_make_19 ?_
    refine lv_iload hx hb d_LK_make_22 (lv_at hl 0 rfl) ?_
    replace hf := G_some hf
    obtain ⟨hi1, hf⟩ := hf
    refine r_aLA hx hb hG hP hi1 d_LK_make_24 ?_
    refine lv_lload_n hx hb d_LK_make_25 rfl (lv_at hl 2 rfl) ?_
    refine lv_iload_n hx hb d_LK_make_26 rfl (lv_at hl 3 rfl) ?_
    refine lv_iload hx hb d_LK_make_27 (lv_at hl 4 rfl) ?_
    refine kw (kv (As := [.long x1, .int x3, .int x4]) (rest := []) ⟨hx, hb, hml, hown, hts⟩ (cw_LK_135 hts ⟨Nat.le_of_ble_eq_true rfl, Nat.le_of_ble_eq_true rfl⟩) (c_LA_begin l D adr cA μ ν ((μ.1 26 1).toNatClampNeg) x1 x3 x4 (vin_lt hi1)) hG hP (rc_o (q := (28 + (μ.1 26 1).toNatClampNeg)) (ci := 0) hG hP (by have := (vin_lt hi1); omega) (wc_C (by have := (vin_lt hi1); omega) (sh_LA)) rfl) rfl hl.1 (Nat.le_of_ble_eq_true rfl) d_LK_make_29) hS (fun H locs hP hS => ?_)
    refine lv_aload_n hx hb d_LK_make_32 rfl (lv_at hl 1 rfl) ?_
    refine lv_dup hx hb d_LK_make_33 rfl ?_
    refine g_LK_number hx hb hts hown hG hP (hts _ in_154) d_LK_make_34 ?_
    refine lv_iconst (v := 1) hx hb d_LK_make_37 (by decide) ?_
    refine lv_iadd hx hb d_LK_make_38 ?_
    refine p_LK_number hx hb hts hown hG hP hS (hts _ in_154) d_LK_make_39 (fun H locs hP hS => ?_)
    refine lv_iload hx hb d_LK_make_42 (lv_at hl 0 rfl) ?_
    obtain rfl := Option.some.inj hf
    exact hq _ _ _ _ d_LK_make_44 hP hS
  · replace hf := if_n hc hf
    refine lv_bipush (v := (-3)) hx hb d_LK_make_9 (by decide) ?_
    obtain rfl := Option.some.inj hf
    exact hq _ _ _ _ d_LK_make_11 hP hS
theorem c_LK_make (l : Launch) (D : va_G) (adr : Nat → Nat) (cA : Nat → ClassId) (μ ν : Mem) (x1 : Int64) (x3 : Int32) (x4 : Int32)  {res : Int32 × Mem} (hf : f_LK_make μ x1 x3 x4 = some res) : Met l y_LK_make (Cond.code y_LK_make prog_3_method_13_code 6 (Option.some Jvm.ClassFile.FieldType.int) :: lw_ok) rm_LK_make (va_Pc [.ref (adr 26), .long x1, .int x3, .int x4] (Wd D adr cA μ ν)) (QI D adr cA res.1 res.2 ν) 0 0 (AA adr) :=
  met_of (own := "LakeRelief$Lakes") rfl rfl (Nat.le_of_ble_eq_true rfl) (fun p e s m below meth c C hG hP hS ls hl => w_LK_make x1 x3 x4  C hG hf (fun pc ls H locs hd hP hS => ret_i C.1 C.2.1 C.2.2.2.2.2.1 C.2.2.2.2.2.2 hG hd hP hS) hP hS hl)
end X_LK_make
section X_LK_makeDouble
variable {p : Program} {l : Launch} {e : Env} {s : State} {m : MethodId} {args : Array Value} {below : List Frame} {meth : Method} {c : Code} {Q : State → Prop}
variable {D : va_G} {adr : Nat → Nat} {cA : Nat → ClassId} {μ ν : Mem}
theorem d_LK_makeDouble_0 : decode prog_3_method_12_code 0 = .ok (.aload_n 0, 1) := by decide +kernel
theorem d_LK_makeDouble_1 : decode prog_3_method_12_code 1 = .ok (.iload_n 1, 1) := by decide +kernel
theorem d_LK_makeDouble_2 : decode prog_3_method_12_code 2 = .ok (.invokevirtual 36, 3) := by decide +kernel
theorem d_LK_makeDouble_5 : decode prog_3_method_12_code 5 = .ok (.ifCond .eq 11, 3) := by decide +kernel
theorem d_LK_makeDouble_8 : decode prog_3_method_12_code 8 = .ok (.aload_n 0, 1) := by decide +kernel
theorem d_LK_makeDouble_9 : decode prog_3_method_12_code 9 = .ok (.iload_n 2, 1) := by decide +kernel
theorem d_LK_makeDouble_10 : decode prog_3_method_12_code 10 = .ok (.invokevirtual 36, 3) := by decide +kernel
theorem d_LK_makeDouble_13 : decode prog_3_method_12_code 13 = .ok (.ifCond .ne 6, 3) := by decide +kernel
theorem d_LK_makeDouble_16 : decode prog_3_method_12_code 16 = .ok (.bipush (-3), 2) := by decide +kernel
theorem d_LK_makeDouble_18 : decode prog_3_method_12_code 18 = .ok (.ireturn, 1) := by decide +kernel
theorem d_LK_makeDouble_19 : decode prog_3_method_12_code 19 = .ok (.aload_n 0, 1) := by decide +kernel
theorem d_LK_makeDouble_20 : decode prog_3_method_12_code 20 = .ok (.aload_n 0, 1) := by decide +kernel
theorem d_LK_makeDouble_21 : decode prog_3_method_12_code 21 = .ok (.getfield 17, 3) := by decide +kernel
theorem d_LK_makeDouble_24 : decode prog_3_method_12_code 24 = .ok (.iload_n 1, 1) := by decide +kernel
theorem d_LK_makeDouble_25 : decode prog_3_method_12_code 25 = .ok (.aaload, 1) := by decide +kernel
theorem d_LK_makeDouble_26 : decode prog_3_method_12_code 26 = .ok (.getfield 67, 3) := by decide +kernel
theorem d_LK_makeDouble_29 : decode prog_3_method_12_code 29 = .ok (.aload_n 0, 1) := by decide +kernel
theorem d_LK_makeDouble_30 : decode prog_3_method_12_code 30 = .ok (.getfield 17, 3) := by decide +kernel
theorem d_LK_makeDouble_33 : decode prog_3_method_12_code 33 = .ok (.iload_n 2, 1) := by decide +kernel
theorem d_LK_makeDouble_34 : decode prog_3_method_12_code 34 = .ok (.aaload, 1) := by decide +kernel
theorem d_LK_makeDouble_35 : decode prog_3_method_12_code 35 = .ok (.getfield 67, 3) := by decide +kernel
theorem d_LK_makeDouble_38 : decode prog_3_method_12_code 38 = .ok (.lor, 1) := by decide +kernel
theorem d_LK_makeDouble_39 : decode prog_3_method_12_code 39 = .ok (.iload_n 1, 1) := by decide +kernel
theorem d_LK_makeDouble_40 : decode prog_3_method_12_code 40 = .ok (.iload_n 2, 1) := by decide +kernel
theorem d_LK_makeDouble_41 : decode prog_3_method_12_code 41 = .ok (.invokevirtual 95, 3) := by decide +kernel
theorem d_LK_makeDouble_44 : decode prog_3_method_12_code 44 = .ok (.istore 4, 2) := by decide +kernel
theorem d_LK_makeDouble_46 : decode prog_3_method_12_code 46 = .ok (.aload_n 0, 1) := by decide +kernel
theorem d_LK_makeDouble_47 : decode prog_3_method_12_code 47 = .ok (.getfield 17, 3) := by decide +kernel
theorem d_LK_makeDouble_50 : decode prog_3_method_12_code 50 = .ok (.iload_n 1, 1) := by decide +kernel
theorem d_LK_makeDouble_51 : decode prog_3_method_12_code 51 = .ok (.aaload, 1) := by decide +kernel
theorem d_LK_makeDouble_52 : decode prog_3_method_12_code 52 = .ok (.iload_n 3, 1) := by decide +kernel
theorem d_LK_makeDouble_53 : decode prog_3_method_12_code 53 = .ok (.iload 4, 2) := by decide +kernel
theorem d_LK_makeDouble_55 : decode prog_3_method_12_code 55 = .ok (.invokevirtual 127, 3) := by decide +kernel
theorem d_LK_makeDouble_58 : decode prog_3_method_12_code 58 = .ok (.aload_n 0, 1) := by decide +kernel
theorem d_LK_makeDouble_59 : decode prog_3_method_12_code 59 = .ok (.getfield 17, 3) := by decide +kernel
theorem d_LK_makeDouble_62 : decode prog_3_method_12_code 62 = .ok (.iload_n 2, 1) := by decide +kernel
theorem d_LK_makeDouble_63 : decode prog_3_method_12_code 63 = .ok (.aaload, 1) := by decide +kernel
theorem d_LK_makeDouble_64 : decode prog_3_method_12_code 64 = .ok (.iload_n 3, 1) := by decide +kernel
theorem d_LK_makeDouble_65 : decode prog_3_method_12_code 65 = .ok (.iload 4, 2) := by decide +kernel
theorem d_LK_makeDouble_67 : decode prog_3_method_12_code 67 = .ok (.invokevirtual 127, 3) := by decide +kernel
theorem d_LK_makeDouble_70 : decode prog_3_method_12_code 70 = .ok (.iload 4, 2) := by decide +kernel
theorem d_LK_makeDouble_72 : decode prog_3_method_12_code 72 = .ok (.ireturn, 1) := by decide +kernel
set_option maxHeartbeats 4000000 in
set_option maxRecDepth 100000 in
theorem w_LK_makeDouble (x1 : Int32) (x2 : Int32) (x3 : Int32)  (C : Cx prog_3_method_12_code 5 "LakeRelief$Lakes" (Option.some Jvm.ClassFile.FieldType.int) p s m args meth c) (hG : Geo D adr cA s) {res : Int32 × Mem} (hf : f_LK_makeDouble μ x1 x2 x3 = some res) (hq : ∀ (pc : Nat) (ls : Array Slot) (H : Heap) (locs : List Loc), decode prog_3_method_12_code pc = .ok (.ireturn, 1) → va_P D cls (wld adr cA res.2 ν) H → va_S (AA adr) s.heap H locs → W p l e rm_LK_makeDouble s m args below meth c H locs 0 0 Q (F0 m pc ls [.int res.1])) {H : Heap} {locs : List Loc} {ls : Array Slot} (hP : va_P D cls (wld adr cA μ ν) H) (hS : va_S (AA adr) s.heap H locs) (hl : lv_has ls 5 [(0, .ref (adr 26)), (1, .int x1), (2, .int x2), (3, .int x3)]) : W p l e rm_LK_makeDouble s m args below meth c H locs 0 0 Q (F0 m 0 ls []) := by
  obtain ⟨hx, hb, hml, hown, hts, hr, hlocks⟩ := id C
  unfold f_LK_makeDouble at hf
  refine lv_aload_n hx hb d_LK_makeDouble_0 rfl (lv_at hl 0 rfl) ?_
  refine lv_iload_n hx hb d_LK_makeDouble_1 rfl (lv_at hl 1 rfl) ?_
  refine ki (kv (As := [.int x1]) (rest := []) ⟨hx, hb, hml, hown, hts⟩ (cw_LK_36 hts ⟨Nat.le_of_ble_eq_true rfl, Nat.le_of_ble_eq_true rfl⟩) (c_LK_isLake l D adr cA μ ν x1) hG hP (rc_o (q := 26) (ci := 1) hG hP (by decide) (wc_C (by decide) rfl) rfl) rfl hl.1 (Nat.le_of_ble_eq_true rfl) d_LK_makeDouble_2) hS (fun H locs hP hS => ?_)
  refine lv_if_eq (tgt := 16) hx hb d_LK_makeDouble_5 (by decide) (fun hc => ?_) (fun hc => ?_)
  · replace hf := if_p hc hf
    refine lv_bipush (v := (-3)) hx hb d_LK_makeDouble_16 (by decide) ?_
    obtain rfl := Option.some.inj hf
    exact hq _ _ _ _ d_LK_makeDouble_18 hP hS
  · replace hf := if_n hc hf
    refine lv_aload_n hx hb d_LK_makeDouble_8 rfl (lv_at hl 0 rfl) ?_
    refine lv_iload_n hx hb d_LK_makeDouble_9 rfl (lv_at hl 2 rfl) ?_
    refine ki (kv (As := [.int x2]) (rest := []) ⟨hx, hb, hml, hown, hts⟩ (cw_LK_36 hts ⟨Nat.le_of_ble_eq_true rfl, Nat.le_of_ble_eq_true rfl⟩) (c_LK_isLake l D adr cA μ ν x2) hG hP (rc_o (q := 26) (ci := 1) hG hP (by decide) (wc_C (by decide) rfl) rfl) rfl hl.1 (Nat.le_of_ble_eq_true rfl) d_LK_makeDouble_10) hS (fun H locs hP hS => ?_)
    refine lv_if_ne (tgt := 19) hx hb d_LK_makeDouble_13 (by decide) (fun hc => ?_) (fun hc => ?_)
    · replace hf := if_n hc hf
      refine lv_aload_n hx hb d_LK_makeDouble_19 rfl (lv_at hl 0 rfl) ?_
      refine lv_aload_n hx hb d_LK_makeDouble_20 rfl (lv_at hl 0 rfl) ?_
      refine g_LK_all hx hb hts hown hG hP (hts _ in_152) d_LK_makeDouble_21 ?_
      refine lv_iload_n hx hb d_LK_makeDouble_24 rfl (lv_at hl 1 rfl) ?_
      replace hf := G_some hf
      obtain ⟨hi1, hf⟩ := hf
      refine r_aLA hx hb hG hP hi1 d_LK_makeDouble_25 ?_
      refine g_LA_fields hx hb hts hown hG hP (vin_lt hi1) (hts _ in_112) d_LK_makeDouble_26 ?_
      refine lv_aload_n hx hb d_LK_makeDouble_29 rfl (lv_at hl 0 rfl) ?_
      refine g_LK_all hx hb hts hown hG hP (hts _ in_152) d_LK_makeDouble_30 ?_
      refine lv_iload_n hx hb d_LK_makeDouble_33 rfl (lv_at hl 2 rfl) ?_
      replace hf := G_some hf
      obtain ⟨hi2, hf⟩ := hf
      refine r_aLA hx hb hG hP hi2 d_LK_makeDouble_34 ?_
      refine g_LA_fields hx hb hts hown hG hP (vin_lt hi2) (hts _ in_112) d_LK_makeDouble_35 ?_
      refine lv_lor hx hb d_LK_makeDouble_38 ?_
      refine lv_iload_n hx hb d_LK_makeDouble_39 rfl (lv_at hl 1 rfl) ?_
      refine lv_iload_n hx hb d_LK_makeDouble_40 rfl (lv_at hl 2 rfl) ?_
      replace hf := B_some hf
      obtain ⟨v3, hv3, hf⟩ := hf
      refine ki (kv (As := [.long ((μ.2 (28 + x1.toNatClampNeg) 0) ||| (μ.2 (28 + x2.toNatClampNeg) 0)), .int x1, .int x2]) (rest := []) ⟨hx, hb, hml, hown, hts⟩ (cw_LK_95 hts ⟨Nat.le_of_ble_eq_true rfl, Nat.le_of_ble_eq_true rfl⟩) (c_LK_make l D adr cA μ ν ((μ.2 (28 + x1.toNatClampNeg) 0) ||| (μ.2 (28 + x2.toNatClampNeg) 0)) x1 x2 hv3) hG hP (rc_o (q := 26) (ci := 1) hG hP (by decide) (wc_C (by decide) rfl) rfl) rfl hl.1 (Nat.le_of_ble_eq_true rfl) d_LK_makeDouble_41) hS (fun H locs hP hS => ?_)
      refine lv_istore (lv' := [(4, .int v3.1), (0, .ref (adr 26)), (1, .int x1), (2, .int x2), (3, .int x3)]) hx hb d_LK_makeDouble_44 hl (by decide) rfl (fun ls hl => ?_)
      refine lv_aload_n hx hb d_LK_makeDouble_46 rfl (lv_at hl 1 rfl) ?_
      refine g_LK_all hx hb hts hown hG hP (hts _ in_152) d_LK_makeDouble_47 ?_
      refine lv_iload_n hx hb d_LK_makeDouble_50 rfl (lv_at hl 2 rfl) ?_
      replace hf := G_some hf
      obtain ⟨hi4, hf⟩ := hf
      refine r_aLA hx hb hG hP hi4 d_LK_makeDouble_51 ?_
      refine lv_iload_n hx hb d_LK_makeDouble_52 rfl (lv_at hl 4 rfl) ?_
      refine lv_iload hx hb d_LK_makeDouble_53 (lv_at hl 0 rfl) ?_
      refine kw (kv (As := [.int x3, .int v3.1]) (rest := []) ⟨hx, hb, hml, hown, hts⟩ (cw_LK_127 hts ⟨Nat.le_of_ble_eq_true rfl, Nat.le_of_ble_eq_true rfl⟩) (c_LA_spillAt l D adr cA v3.2 ν x1.toNatClampNeg x3 v3.1 (vin_lt hi4)) hG hP (rc_o (q := (28 + x1.toNatClampNeg)) (ci := 0) hG hP (by have := (vin_lt hi4); omega) (wc_C (by have := (vin_lt hi4); omega) (sh_LA)) rfl) rfl hl.1 (Nat.le_of_ble_eq_true rfl) d_LK_makeDouble_55) hS (fun H locs hP hS => ?_)
      refine lv_aload_n hx hb d_LK_makeDouble_58 rfl (lv_at hl 1 rfl) ?_
      refine g_LK_all hx hb hts hown hG hP (hts _ in_152) d_LK_makeDouble_59 ?_
      refine lv_iload_n hx hb d_LK_makeDouble_62 rfl (lv_at hl 3 rfl) ?_
      replace hf := G_some hf
      obtain ⟨hi5, hf⟩ := hf
      refine r_aLA hx hb hG hP hi5 d_LK_makeDouble_63 ?_
      refine lv_iload_n hx hb d_LK_makeDouble_64 rfl (lv_at hl 4 rfl) ?_
      refine lv_iload hx hb d_LK_makeDouble_65 (lv_at hl 0 rfl) ?_
      refine kw (kv (As := [.int x3, .int v3.1]) (rest := []) ⟨hx, hb, hml, hown, hts⟩ (cw_LK_127 hts ⟨Nat.le_of_ble_eq_true rfl, Nat.le_of_ble_eq_true rfl⟩) (c_LA_spillAt l D adr cA (f_LA_spillAt v3.2 x1.toNatClampNeg x3 v3.1) ν x2.toNatClampNeg x3 v3.1 (vin_lt hi5)) hG hP (rc_o (q := (28 + x2.toNatClampNeg)) (ci := 0) hG hP (by have := (vin_lt hi5); omega) (wc_C (by have := (vin_lt hi5); omega) (sh_LA)) rfl) rfl hl.1 (Nat.le_of_ble_eq_true rfl) d_LK_makeDouble_67) hS (fun H locs hP hS => ?_)
      refine lv_iload hx hb d_LK_makeDouble_70 (lv_at hl 0 rfl) ?_
      obtain rfl := Option.some.inj hf
      exact hq _ _ _ _ d_LK_makeDouble_72 hP hS
    · replace hf := if_p hc hf
      refine lv_bipush (v := (-3)) hx hb d_LK_makeDouble_16 (by decide) ?_
      obtain rfl := Option.some.inj hf
      exact hq _ _ _ _ d_LK_makeDouble_18 hP hS
theorem c_LK_makeDouble (l : Launch) (D : va_G) (adr : Nat → Nat) (cA : Nat → ClassId) (μ ν : Mem) (x1 : Int32) (x2 : Int32) (x3 : Int32)  {res : Int32 × Mem} (hf : f_LK_makeDouble μ x1 x2 x3 = some res) : Met l y_LK_makeDouble (Cond.code y_LK_makeDouble prog_3_method_12_code 5 (Option.some Jvm.ClassFile.FieldType.int) :: lw_ok) rm_LK_makeDouble (va_Pc [.ref (adr 26), .int x1, .int x2, .int x3] (Wd D adr cA μ ν)) (QI D adr cA res.1 res.2 ν) 0 0 (AA adr) :=
  met_of (own := "LakeRelief$Lakes") rfl rfl (Nat.le_of_ble_eq_true rfl) (fun p e s m below meth c C hG hP hS ls hl => w_LK_makeDouble x1 x2 x3  C hG hf (fun pc ls H locs hd hP hS => ret_i C.1 C.2.1 C.2.2.2.2.2.1 C.2.2.2.2.2.2 hG hd hP hS) hP hS hl)
end X_LK_makeDouble
section X_LK_joinAt
variable {p : Program} {l : Launch} {e : Env} {s : State} {m : MethodId} {args : Array Value} {below : List Frame} {meth : Method} {c : Code} {Q : State → Prop}
variable {D : va_G} {adr : Nat → Nat} {cA : Nat → ClassId} {μ ν : Mem}
theorem d_LK_joinAt_0 : decode prog_3_method_11_code 0 = .ok (.bipush (-3), 2) := by decide +kernel
theorem d_LK_joinAt_2 : decode prog_3_method_11_code 2 = .ok (.istore 4, 2) := by decide +kernel
theorem d_LK_joinAt_4 : decode prog_3_method_11_code 4 = .ok (.aload_n 0, 1) := by decide +kernel
theorem d_LK_joinAt_5 : decode prog_3_method_11_code 5 = .ok (.getfield 22, 3) := by decide +kernel
theorem d_LK_joinAt_8 : decode prog_3_method_11_code 8 = .ok (.istore 5, 2) := by decide +kernel
theorem d_LK_joinAt_10 : decode prog_3_method_11_code 10 = .ok (.iconst 0, 1) := by decide +kernel
theorem d_LK_joinAt_11 : decode prog_3_method_11_code 11 = .ok (.istore 6, 2) := by decide +kernel
theorem d_LK_joinAt_13 : decode prog_3_method_11_code 13 = .ok (.iload 6, 2) := by decide +kernel
theorem d_LK_joinAt_15 : decode prog_3_method_11_code 15 = .ok (.iload 5, 2) := by decide +kernel
theorem d_LK_joinAt_17 : decode prog_3_method_11_code 17 = .ok (.if_icmp .ge 41, 3) := by decide +kernel
theorem d_LK_joinAt_20 : decode prog_3_method_11_code 20 = .ok (.lload_n 1, 1) := by decide +kernel
theorem d_LK_joinAt_21 : decode prog_3_method_11_code 21 = .ok (.iload 6, 2) := by decide +kernel
theorem d_LK_joinAt_23 : decode prog_3_method_11_code 23 = .ok (.invokestatic 123, 3) := by decide +kernel
theorem d_LK_joinAt_26 : decode prog_3_method_11_code 26 = .ok (.ifCond .eq 26, 3) := by decide +kernel
theorem d_LK_joinAt_29 : decode prog_3_method_11_code 29 = .ok (.iload 4, 2) := by decide +kernel
theorem d_LK_joinAt_31 : decode prog_3_method_11_code 31 = .ok (.bipush (-3), 2) := by decide +kernel
theorem d_LK_joinAt_33 : decode prog_3_method_11_code 33 = .ok (.if_icmp .ne 8, 3) := by decide +kernel
theorem d_LK_joinAt_36 : decode prog_3_method_11_code 36 = .ok (.iload 6, 2) := by decide +kernel
theorem d_LK_joinAt_38 : decode prog_3_method_11_code 38 = .ok (.goto 12, 3) := by decide +kernel
theorem d_LK_joinAt_41 : decode prog_3_method_11_code 41 = .ok (.aload_n 0, 1) := by decide +kernel
theorem d_LK_joinAt_42 : decode prog_3_method_11_code 42 = .ok (.iload 4, 2) := by decide +kernel
theorem d_LK_joinAt_44 : decode prog_3_method_11_code 44 = .ok (.iload 6, 2) := by decide +kernel
theorem d_LK_joinAt_46 : decode prog_3_method_11_code 46 = .ok (.iload_n 3, 1) := by decide +kernel
theorem d_LK_joinAt_47 : decode prog_3_method_11_code 47 = .ok (.invokevirtual 131, 3) := by decide +kernel
theorem d_LK_joinAt_50 : decode prog_3_method_11_code 50 = .ok (.istore 4, 2) := by decide +kernel
theorem d_LK_joinAt_52 : decode prog_3_method_11_code 52 = .ok (.iinc 6 1, 3) := by decide +kernel
theorem d_LK_joinAt_55 : decode prog_3_method_11_code 55 = .ok (.goto (-42), 3) := by decide +kernel
theorem d_LK_joinAt_58 : decode prog_3_method_11_code 58 = .ok (.iload 4, 2) := by decide +kernel
theorem d_LK_joinAt_60 : decode prog_3_method_11_code 60 = .ok (.ireturn, 1) := by decide +kernel
set_option maxHeartbeats 4000000 in
set_option maxRecDepth 100000 in
theorem w_LK_joinAt_L13 (y1 : Int64) (y3 : Int32) (y5 : Int32)  (C : Cx prog_3_method_11_code 7 "LakeRelief$Lakes" (Option.some Jvm.ClassFile.FieldType.int) p s m args meth c) (hG : Geo D adr cA s) (v : Int32 × Mem) (hE : ∀ (H : Heap) (locs : List Loc) (ls : Array Slot), va_P D cls (wld adr cA v.2 ν) H → va_S (AA adr) s.heap H locs → lv_has ls 7 [(4, .int v.1)] → W p l e rm_LK_joinAt s m args below meth c H locs 0 0 Q (F0 m 58 ls [])) : ∀ (n : Nat) (μ : Mem) (y4 : Int32) (y6 : Int32), f_LK_joinAt_L13 y1 y3 y5 n μ y4 y6 = some v → ∀ {H : Heap} {locs : List Loc} {ls : Array Slot}, va_P D cls (wld adr cA μ ν) H → va_S (AA adr) s.heap H locs → lv_has ls 7 [(0, .ref (adr 26)), (1, .long y1), (3, .int y3), (4, .int y4), (5, .int y5), (6, .int y6)] → W p l e rm_LK_joinAt s m args below meth c H locs 0 0 Q (F0 m 13 ls []) := by
  obtain ⟨hx, hb, hml, hown, hts, hr, hlocks⟩ := id C
  intro n
  induction n with
  | zero => intro μ y4 y6 hf; rw [f_LK_joinAt_L13.eq_1] at hf; cases hf
  | succ n ih =>
    intro μ y4 y6 hf H locs ls hP hS hl
    rw [f_LK_joinAt_L13.eq_2] at hf
    refine lv_iload hx hb d_LK_joinAt_13 (lv_at hl 5 rfl) ?_
    refine lv_iload hx hb d_LK_joinAt_15 (lv_at hl 4 rfl) ?_
    refine lv_icmp_ge (tgt := 58) hx hb d_LK_joinAt_17 (by decide) (fun hc => ?_) (fun hc => ?_)
    · replace hf := if_p hc hf
      obtain rfl := Option.some.inj hf
      exact hE _ _ _ hP hS (lv_sub hl [3] rfl)
    · replace hf := if_n hc hf
      refine lv_lload_n hx hb d_LK_joinAt_20 rfl (lv_at hl 1 rfl) ?_
      refine lv_iload hx hb d_LK_joinAt_21 (lv_at hl 5 rfl) ?_
      refine ki (kn (As := [.long y1, .int y6]) (rest := []) ⟨hx, hb, hml, hown, hts⟩ (cw_LK_123 hts hG ⟨Nat.le_of_ble_eq_true rfl, Nat.le_of_ble_eq_true rfl⟩) (c_LR_isIn l D adr cA μ ν y1 y6) hG hP rfl hl.1 (Nat.le_of_ble_eq_true rfl) d_LK_joinAt_23) hS (fun H locs hP hS => ?_)
      replace hf := B_some hf
      obtain ⟨v1, hv1, hf⟩ := hf
      have hJ : ∀ (H : Heap) (locs : List Loc) (ls : Array Slot), va_P D cls (wld adr cA v1.2 ν) H → va_S (AA adr) s.heap H locs → lv_has ls 7 [(0, .ref (adr 26)), (1, .long y1), (3, .int y3), (4, .int v1.1), (5, .int y5), (6, .int y6)] → W p l e rm_LK_joinAt s m args below meth c H locs 0 0 Q (F0 m 52 ls []) := by
        clear hv1
        intro H locs ls hP hS hl
        refine lv_iinc (v := (y6 + 1)) (lv' := [(6, .int (y6 + 1)), (0, .ref (adr 26)), (1, .long y1), (3, .int y3), (4, .int v1.1), (5, .int y5)]) hx hb d_LK_joinAt_52 hl (k := 5) rfl rfl (by decide) rfl (fun ls hl => ?_)
        refine lv_goto (tgt := 13) hx hb d_LK_joinAt_55 (by decide) ?_
        exact ih _ _ _ hf hP hS (lv_sub hl [1, 2, 3, 4, 5, 0] rfl)
      clear hf
      have hf := hv1
      clear hv1
      refine lv_if_eq (tgt := 52) hx hb d_LK_joinAt_26 (by decide) (fun hc => ?_) (fun hc => ?_)
      · replace hf := if_p hc hf
        obtain rfl := Option.some.inj hf
        exact hJ _ _ _ hP hS (lv_sub hl [0, 1, 2, 3, 4, 5] rfl)
      · replace hf := if_n hc hf
        refine lv_iload hx hb d_LK_joinAt_29 (lv_at hl 3 rfl) ?_
        refine lv_bipush (v := (-3)) hx hb d_LK_joinAt_31 (by decide) ?_
        replace hf := B_some hf
        obtain ⟨v2, hv2, hf⟩ := hf
        have hJ : ∀ (H : Heap) (locs : List Loc) (ls : Array Slot), va_P D cls (wld adr cA v2.2 ν) H → va_S (AA adr) s.heap H locs → lv_has ls 7 [(0, .ref (adr 26)), (1, .long y1), (3, .int y3), (5, .int y5), (6, .int y6)] → W p l e rm_LK_joinAt s m args below meth c H locs 0 0 Q (F0 m 50 ls [.int v2.1]) := by
          clear hv2
          intro H locs ls hP hS hl
          refine lv_istore (lv' := [(4, .int v2.1), (0, .ref (adr 26)), (1, .long y1), (3, .int y3), (5, .int y5), (6, .int y6)]) hx hb d_LK_joinAt_50 hl (by decide) rfl (fun ls hl => ?_)
          obtain rfl := Option.some.inj hf
          exact hJ _ _ _ hP hS (lv_sub hl [1, 2, 3, 0, 4, 5] rfl)
        clear hf
        have hf := hv2
        clear hv2
        refine lv_icmp_ne (tgt := 41) hx hb d_LK_joinAt_33 (by decide) (fun hc => ?_) (fun hc => ?_)
        · replace hf := if_n hc hf
          refine lv_aload_n hx hb d_LK_joinAt_41 rfl (lv_at hl 0 rfl) ?_
          refine lv_iload hx hb d_LK_joinAt_42 (lv_at hl 3 rfl) ?_
          refine lv_iload hx hb d_LK_joinAt_44 (lv_at hl 5 rfl) ?_
          refine lv_iload_n hx hb d_LK_joinAt_46 rfl (lv_at hl 2 rfl) ?_
          replace hf := B_some hf
          obtain ⟨v3, hv3, hf⟩ := hf
          refine ki (kv (As := [.int y4, .int y6, .int y3]) (rest := []) ⟨hx, hb, hml, hown, hts⟩ (cw_LK_131 hts ⟨Nat.le_of_ble_eq_true rfl, Nat.le_of_ble_eq_true rfl⟩) (c_LK_makeDouble l D adr cA μ ν y4 y6 y3 hv3) hG hP (rc_o (q := 26) (ci := 1) hG hP (by decide) (wc_C (by decide) rfl) rfl) rfl hl.1 (Nat.le_of_ble_eq_true rfl) d_LK_joinAt_47) hS (fun H locs hP hS => ?_)
          obtain rfl := Option.some.inj hf
          exact hJ _ _ _ hP hS (lv_sub hl [0, 1, 2, 4, 5] rfl)
        · replace hf := if_p hc hf
          refine lv_iload hx hb d_LK_joinAt_36 (lv_at hl 5 rfl) ?_
          refine lv_goto (tgt := 50) hx hb d_LK_joinAt_38 (by decide) ?_
          obtain rfl := Option.some.inj hf
          exact hJ _ _ _ hP hS (lv_sub hl [0, 1, 2, 4, 5] rfl)
set_option maxHeartbeats 4000000 in
set_option maxRecDepth 100000 in
theorem w_LK_joinAt (x1 : Int64) (x3 : Int32)  (C : Cx prog_3_method_11_code 7 "LakeRelief$Lakes" (Option.some Jvm.ClassFile.FieldType.int) p s m args meth c) (hG : Geo D adr cA s) {res : Int32 × Mem} (hf : f_LK_joinAt μ x1 x3 = some res) (hq : ∀ (pc : Nat) (ls : Array Slot) (H : Heap) (locs : List Loc), decode prog_3_method_11_code pc = .ok (.ireturn, 1) → va_P D cls (wld adr cA res.2 ν) H → va_S (AA adr) s.heap H locs → W p l e rm_LK_joinAt s m args below meth c H locs 0 0 Q (F0 m pc ls [.int res.1])) {H : Heap} {locs : List Loc} {ls : Array Slot} (hP : va_P D cls (wld adr cA μ ν) H) (hS : va_S (AA adr) s.heap H locs) (hl : lv_has ls 7 [(0, .ref (adr 26)), (1, .long x1), (3, .int x3)]) : W p l e rm_LK_joinAt s m args below meth c H locs 0 0 Q (F0 m 0 ls []) := by
  obtain ⟨hx, hb, hml, hown, hts, hr, hlocks⟩ := id C
  unfold f_LK_joinAt at hf
  refine lv_bipush (v := (-3)) hx hb d_LK_joinAt_0 (by decide) ?_
  refine lv_istore (lv' := [(4, .int (-3)), (0, .ref (adr 26)), (1, .long x1), (3, .int x3)]) hx hb d_LK_joinAt_2 hl (by decide) rfl (fun ls hl => ?_)
  refine lv_aload_n hx hb d_LK_joinAt_4 rfl (lv_at hl 1 rfl) ?_
  refine g_LK_number hx hb hts hown hG hP (hts _ in_154) d_LK_joinAt_5 ?_
  refine lv_istore (lv' := [(5, .int (μ.1 26 1)), (4, .int (-3)), (0, .ref (adr 26)), (1, .long x1), (3, .int x3)]) hx hb d_LK_joinAt_8 hl (by decide) rfl (fun ls hl => ?_)
  refine lv_iconst (v := 0) hx hb d_LK_joinAt_10 (by decide) ?_
  refine lv_istore (lv' := [(6, .int 0), (5, .int (μ.1 26 1)), (4, .int (-3)), (0, .ref (adr 26)), (1, .long x1), (3, .int x3)]) hx hb d_LK_joinAt_11 hl (by decide) rfl (fun ls hl => ?_)
  replace hf := B_some hf
  obtain ⟨v4, hv4, hf⟩ := hf
  refine w_LK_joinAt_L13 x1 x3 (μ.1 26 1)  C hG v4 ?_ FU _ _ _ hv4 hP hS (lv_sub hl [3, 4, 5, 2, 1, 0] rfl)
  clear hv4 hP hS hl
  intro H locs ls hP hS hl
  refine lv_iload hx hb d_LK_joinAt_58 (lv_at hl 0 rfl) ?_
  obtain rfl := Option.some.inj hf
  exact hq _ _ _ _ d_LK_joinAt_60 hP hS
theorem c_LK_joinAt (l : Launch) (D : va_G) (adr : Nat → Nat) (cA : Nat → ClassId) (μ ν : Mem) (x1 : Int64) (x3 : Int32)  {res : Int32 × Mem} (hf : f_LK_joinAt μ x1 x3 = some res) : Met l y_LK_joinAt (Cond.code y_LK_joinAt prog_3_method_11_code 7 (Option.some Jvm.ClassFile.FieldType.int) :: lw_ok) rm_LK_joinAt (va_Pc [.ref (adr 26), .long x1, .int x3] (Wd D adr cA μ ν)) (QI D adr cA res.1 res.2 ν) 0 0 (AA adr) :=
  met_of (own := "LakeRelief$Lakes") rfl rfl (Nat.le_of_ble_eq_true rfl) (fun p e s m below meth c C hG hP hS ls hl => w_LK_joinAt x1 x3  C hG hf (fun pc ls H locs hd hP hS => ret_i C.1 C.2.1 C.2.2.2.2.2.1 C.2.2.2.2.2.2 hG hd hP hS) hP hS hl)
end X_LK_joinAt
section X_LK_goUnder
variable {p : Program} {l : Launch} {e : Env} {s : State} {m : MethodId} {args : Array Value} {below : List Frame} {meth : Method} {c : Code} {Q : State → Prop}
variable {D : va_G} {adr : Nat → Nat} {cA : Nat → ClassId} {μ ν : Mem}
theorem d_LK_goUnder_0 : decode prog_3_method_6_code 0 = .ok (.aload_n 0, 1) := by decide +kernel
theorem d_LK_goUnder_1 : decode prog_3_method_6_code 1 = .ok (.iload_n 1, 1) := by decide +kernel
theorem d_LK_goUnder_2 : decode prog_3_method_6_code 2 = .ok (.invokevirtual 84, 3) := by decide +kernel
theorem d_LK_goUnder_5 : decode prog_3_method_6_code 5 = .ok (.lstore_n 2, 1) := by decide +kernel
theorem d_LK_goUnder_6 : decode prog_3_method_6_code 6 = .ok (.aload_n 0, 1) := by decide +kernel
theorem d_LK_goUnder_7 : decode prog_3_method_6_code 7 = .ok (.iload_n 1, 1) := by decide +kernel
theorem d_LK_goUnder_8 : decode prog_3_method_6_code 8 = .ok (.invokevirtual 88, 3) := by decide +kernel
theorem d_LK_goUnder_11 : decode prog_3_method_6_code 11 = .ok (.ifCond .eq 10, 3) := by decide +kernel
theorem d_LK_goUnder_14 : decode prog_3_method_6_code 14 = .ok (.aload_n 0, 1) := by decide +kernel
theorem d_LK_goUnder_15 : decode prog_3_method_6_code 15 = .ok (.lload_n 2, 1) := by decide +kernel
theorem d_LK_goUnder_16 : decode prog_3_method_6_code 16 = .ok (.iload_n 1, 1) := by decide +kernel
theorem d_LK_goUnder_17 : decode prog_3_method_6_code 17 = .ok (.invokevirtual 91, 3) := by decide +kernel
theorem d_LK_goUnder_20 : decode prog_3_method_6_code 20 = .ok (.return_, 1) := by decide +kernel
theorem d_LK_goUnder_21 : decode prog_3_method_6_code 21 = .ok (.lload_n 2, 1) := by decide +kernel
theorem d_LK_goUnder_22 : decode prog_3_method_6_code 22 = .ok (.lconst 0, 1) := by decide +kernel
theorem d_LK_goUnder_23 : decode prog_3_method_6_code 23 = .ok (.lcmp, 1) := by decide +kernel
theorem d_LK_goUnder_24 : decode prog_3_method_6_code 24 = .ok (.ifCond .ne 15, 3) := by decide +kernel
theorem d_LK_goUnder_27 : decode prog_3_method_6_code 27 = .ok (.aload_n 0, 1) := by decide +kernel
theorem d_LK_goUnder_28 : decode prog_3_method_6_code 28 = .ok (.lconst 0, 1) := by decide +kernel
theorem d_LK_goUnder_29 : decode prog_3_method_6_code 29 = .ok (.bipush (-3), 2) := by decide +kernel
theorem d_LK_goUnder_31 : decode prog_3_method_6_code 31 = .ok (.bipush (-3), 2) := by decide +kernel
theorem d_LK_goUnder_33 : decode prog_3_method_6_code 33 = .ok (.invokevirtual 95, 3) := by decide +kernel
theorem d_LK_goUnder_36 : decode prog_3_method_6_code 36 = .ok (.goto 9, 3) := by decide +kernel
theorem d_LK_goUnder_39 : decode prog_3_method_6_code 39 = .ok (.aload_n 0, 1) := by decide +kernel
theorem d_LK_goUnder_40 : decode prog_3_method_6_code 40 = .ok (.lload_n 2, 1) := by decide +kernel
theorem d_LK_goUnder_41 : decode prog_3_method_6_code 41 = .ok (.iload_n 1, 1) := by decide +kernel
theorem d_LK_goUnder_42 : decode prog_3_method_6_code 42 = .ok (.invokevirtual 99, 3) := by decide +kernel
theorem d_LK_goUnder_45 : decode prog_3_method_6_code 45 = .ok (.istore 4, 2) := by decide +kernel
theorem d_LK_goUnder_47 : decode prog_3_method_6_code 47 = .ok (.aload_n 0, 1) := by decide +kernel
theorem d_LK_goUnder_48 : decode prog_3_method_6_code 48 = .ok (.iload 4, 2) := by decide +kernel
theorem d_LK_goUnder_50 : decode prog_3_method_6_code 50 = .ok (.invokevirtual 36, 3) := by decide +kernel
theorem d_LK_goUnder_53 : decode prog_3_method_6_code 53 = .ok (.ifCond .eq 22, 3) := by decide +kernel
theorem d_LK_goUnder_56 : decode prog_3_method_6_code 56 = .ok (.aload_n 0, 1) := by decide +kernel
theorem d_LK_goUnder_57 : decode prog_3_method_6_code 57 = .ok (.getfield 17, 3) := by decide +kernel
theorem d_LK_goUnder_60 : decode prog_3_method_6_code 60 = .ok (.iload 4, 2) := by decide +kernel
theorem d_LK_goUnder_62 : decode prog_3_method_6_code 62 = .ok (.aaload, 1) := by decide +kernel
theorem d_LK_goUnder_63 : decode prog_3_method_6_code 63 = .ok (.dup, 1) := by decide +kernel
theorem d_LK_goUnder_64 : decode prog_3_method_6_code 64 = .ok (.getfield 67, 3) := by decide +kernel
theorem d_LK_goUnder_67 : decode prog_3_method_6_code 67 = .ok (.iload_n 1, 1) := by decide +kernel
theorem d_LK_goUnder_68 : decode prog_3_method_6_code 68 = .ok (.invokestatic 102, 3) := by decide +kernel
theorem d_LK_goUnder_71 : decode prog_3_method_6_code 71 = .ok (.lor, 1) := by decide +kernel
theorem d_LK_goUnder_72 : decode prog_3_method_6_code 72 = .ok (.putfield 67, 3) := by decide +kernel
theorem d_LK_goUnder_75 : decode prog_3_method_6_code 75 = .ok (.return_, 1) := by decide +kernel
set_option maxHeartbeats 4000000 in
set_option maxRecDepth 100000 in
theorem w_LK_goUnder (x1 : Int32)  (C : Cx prog_3_method_6_code 5 "LakeRelief$Lakes" (Option.none : Option Jvm.ClassFile.FieldType) p s m args meth c) (hG : Geo D adr cA s) {res : Mem} (hf : f_LK_goUnder μ x1 = some res) (hq : ∀ (pc : Nat) (ls : Array Slot) (H : Heap) (locs : List Loc), decode prog_3_method_6_code pc = .ok (.return_, 1) → va_P D cls (wld adr cA res ν) H → va_S (AA adr) s.heap H locs → W p l e rm_LK_goUnder s m args below meth c H locs 0 0 Q (F0 m pc ls [])) {H : Heap} {locs : List Loc} {ls : Array Slot} (hP : va_P D cls (wld adr cA μ ν) H) (hS : va_S (AA adr) s.heap H locs) (hl : lv_has ls 5 [(0, .ref (adr 26)), (1, .int x1)]) : W p l e rm_LK_goUnder s m args below meth c H locs 0 0 Q (F0 m 0 ls []) := by
  obtain ⟨hx, hb, hml, hown, hts, hr, hlocks⟩ := id C
  unfold f_LK_goUnder at hf
  refine lv_aload_n hx hb d_LK_goUnder_0 rfl (lv_at hl 0 rfl) ?_
  refine lv_iload_n hx hb d_LK_goUnder_1 rfl (lv_at hl 1 rfl) ?_
  replace hf := B_some hf
  obtain ⟨v1, hv1, hf⟩ := hf
  refine kl (kv (As := [.int x1]) (rest := []) ⟨hx, hb, hml, hown, hts⟩ (cw_LK_84 hts ⟨Nat.le_of_ble_eq_true rfl, Nat.le_of_ble_eq_true rfl⟩) (c_LK_topsBeside l D adr cA μ ν x1 hv1) hG hP (rc_o (q := 26) (ci := 1) hG hP (by decide) (wc_C (by decide) rfl) rfl) rfl hl.1 (Nat.le_of_ble_eq_true rfl) d_LK_goUnder_2) hS (fun H locs hP hS => ?_)
  refine lv_lstore_n (lv' := [(2, .long v1), (0, .ref (adr 26)), (1, .int x1)]) hx hb d_LK_goUnder_5 rfl hl (by decide) rfl (fun ls hl => ?_)
  refine lv_aload_n hx hb d_LK_goUnder_6 rfl (lv_at hl 1 rfl) ?_
  refine lv_iload_n hx hb d_LK_goUnder_7 rfl (lv_at hl 2 rfl) ?_
  replace hf := B_some hf
  obtain ⟨v2, hv2, hf⟩ := hf
  refine ki (kv (As := [.int x1]) (rest := []) ⟨hx, hb, hml, hown, hts⟩ (cw_LK_88 hts ⟨Nat.le_of_ble_eq_true rfl, Nat.le_of_ble_eq_true rfl⟩) (c_LK_isBesideSeas l D adr cA μ ν x1 hv2) hG hP (rc_o (q := 26) (ci := 1) hG hP (by decide) (wc_C (by decide) rfl) rfl) rfl hl.1 (Nat.le_of_ble_eq_true rfl) d_LK_goUnder_8) hS (fun H locs hP hS => ?_)
  refine lv_if_eq (tgt := 21) hx hb d_LK_goUnder_11 (by decide) (fun hc => ?_) (fun hc => ?_)
  · replace hf := if_p hc hf
    refine lv_lload_n hx hb d_LK_goUnder_21 rfl (lv_at hl 0 rfl) ?_
    refine lv_lconst (v := 0) hx hb d_LK_goUnder_22 (by decide) ?_
    refine W.lcmp hx hb d_LK_goUnder_23 ?_
    replace hf := B_some hf
    obtain ⟨v3, hv3, hf⟩ := hf
    have hJ : ∀ (H : Heap) (locs : List Loc) (ls : Array Slot), va_P D cls (wld adr cA v3.2 ν) H → va_S (AA adr) s.heap H locs → lv_has ls 5 [(0, .ref (adr 26)), (1, .int x1)] → W p l e rm_LK_goUnder s m args below meth c H locs 0 0 Q (F0 m 45 ls [.int v3.1]) := by
      clear hv3
      intro H locs ls hP hS hl
      refine lv_istore (lv' := [(4, .int v3.1), (0, .ref (adr 26)), (1, .int x1)]) hx hb d_LK_goUnder_45 hl (by decide) rfl (fun ls hl => ?_)
      refine lv_aload_n hx hb d_LK_goUnder_47 rfl (lv_at hl 1 rfl) ?_
      refine lv_iload hx hb d_LK_goUnder_48 (lv_at hl 0 rfl) ?_
      refine ki (kv (As := [.int v3.1]) (rest := []) ⟨hx, hb, hml, hown, hts⟩ (cw_LK_36 hts ⟨Nat.le_of_ble_eq_true rfl, Nat.le_of_ble_eq_true rfl⟩) (c_LK_isLake l D adr cA v3.2 ν v3.1) hG hP (rc_o (q := 26) (ci := 1) hG hP (by decide) (wc_C (by decide) rfl) rfl) rfl hl.1 (Nat.le_of_ble_eq_true rfl) d_LK_goUnder_50) hS (fun H locs hP hS => ?_)
      refine lv_if_eq (tgt := 75) hx hb d_LK_goUnder_53 (by decide) (fun hc => ?_) (fun hc => ?_)
      · replace hf := if_p hc hf
        obtain rfl := Option.some.inj hf
        exact hq _ _ _ _ d_LK_goUnder_75 hP hS
      · replace hf := if_n hc hf
        refine lv_aload_n hx hb d_LK_goUnder_56 rfl (lv_at hl 1 rfl) ?_
        refine g_LK_all hx hb hts hown hG hP (hts _ in_152) d_LK_goUnder_57 ?_
        refine lv_iload hx hb d_LK_goUnder_60 (lv_at hl 0 rfl) ?_
        replace hf := G_some hf
        obtain ⟨hi6, hf⟩ := hf
        refine r_aLA hx hb hG hP hi6 d_LK_goUnder_62 ?_
        refine lv_dup hx hb d_LK_goUnder_63 rfl ?_
        refine g_LA_fields hx hb hts hown hG hP (vin_lt hi6) (hts _ in_112) d_LK_goUnder_64 ?_
        refine lv_iload_n hx hb d_LK_goUnder_67 rfl (lv_at hl 2 rfl) ?_
        refine kl (kn (As := [.int x1]) (rest := [.long (v3.2.2 (28 + v3.1.toNatClampNeg) 0), .ref (adr (28 + v3.1.toNatClampNeg))]) ⟨hx, hb, hml, hown, hts⟩ (cw_LK_102 hts hG ⟨Nat.le_of_ble_eq_true rfl, Nat.le_of_ble_eq_true rfl⟩) (c_LR_only l D adr cA v3.2 ν x1) hG hP rfl hl.1 (Nat.le_of_ble_eq_true rfl) d_LK_goUnder_68) hS (fun H locs hP hS => ?_)
        refine lv_lor hx hb d_LK_goUnder_71 ?_
        refine p_LA_fields hx hb hts hown hG hP hS (vin_lt hi6) (hts _ in_112) d_LK_goUnder_72 (fun H locs hP hS => ?_)
        obtain rfl := Option.some.inj hf
        exact hq _ _ _ _ d_LK_goUnder_75 hP hS
    clear hf
    have hf := hv3
    clear hv3
    refine lv_if_ne (tgt := 39) hx hb d_LK_goUnder_24 (by decide) (fun hc => ?_) (fun hc => ?_)
    · replace hf := if_n hc hf
      refine lv_aload_n hx hb d_LK_goUnder_39 rfl (lv_at hl 1 rfl) ?_
      refine lv_lload_n hx hb d_LK_goUnder_40 rfl (lv_at hl 0 rfl) ?_
      refine lv_iload_n hx hb d_LK_goUnder_41 rfl (lv_at hl 2 rfl) ?_
      replace hf := B_some hf
      obtain ⟨v4, hv4, hf⟩ := hf
      refine ki (kv (As := [.long v1, .int x1]) (rest := []) ⟨hx, hb, hml, hown, hts⟩ (cw_LK_99 hts ⟨Nat.le_of_ble_eq_true rfl, Nat.le_of_ble_eq_true rfl⟩) (c_LK_joinAt l D adr cA μ ν v1 x1 hv4) hG hP (rc_o (q := 26) (ci := 1) hG hP (by decide) (wc_C (by decide) rfl) rfl) rfl hl.1 (Nat.le_of_ble_eq_true rfl) d_LK_goUnder_42) hS (fun H locs hP hS => ?_)
      obtain rfl := Option.some.inj hf
      exact hJ _ _ _ hP hS (lv_sub hl [1, 2] rfl)
    · replace hf := if_p hc hf
      refine lv_aload_n hx hb d_LK_goUnder_27 rfl (lv_at hl 1 rfl) ?_
      refine lv_lconst (v := 0) hx hb d_LK_goUnder_28 (by decide) ?_
      refine lv_bipush (v := (-3)) hx hb d_LK_goUnder_29 (by decide) ?_
      refine lv_bipush (v := (-3)) hx hb d_LK_goUnder_31 (by decide) ?_
      replace hf := B_some hf
      obtain ⟨v5, hv5, hf⟩ := hf
      refine ki (kv (As := [.long 0, .int (-3), .int (-3)]) (rest := []) ⟨hx, hb, hml, hown, hts⟩ (cw_LK_95 hts ⟨Nat.le_of_ble_eq_true rfl, Nat.le_of_ble_eq_true rfl⟩) (c_LK_make l D adr cA μ ν 0 (-3) (-3) hv5) hG hP (rc_o (q := 26) (ci := 1) hG hP (by decide) (wc_C (by decide) rfl) rfl) rfl hl.1 (Nat.le_of_ble_eq_true rfl) d_LK_goUnder_33) hS (fun H locs hP hS => ?_)
      refine lv_goto (tgt := 45) hx hb d_LK_goUnder_36 (by decide) ?_
      obtain rfl := Option.some.inj hf
      exact hJ _ _ _ hP hS (lv_sub hl [1, 2] rfl)
  · replace hf := if_n hc hf
    refine lv_aload_n hx hb d_LK_goUnder_14 rfl (lv_at hl 1 rfl) ?_
    refine lv_lload_n hx hb d_LK_goUnder_15 rfl (lv_at hl 0 rfl) ?_
    refine lv_iload_n hx hb d_LK_goUnder_16 rfl (lv_at hl 2 rfl) ?_
    replace hf := B_some hf
    obtain ⟨v7, hv7, hf⟩ := hf
    refine kw (kv (As := [.long v1, .int x1]) (rest := []) ⟨hx, hb, hml, hown, hts⟩ (cw_LK_91 hts ⟨Nat.le_of_ble_eq_true rfl, Nat.le_of_ble_eq_true rfl⟩) (c_LK_spillToSea l D adr cA μ ν v1 x1 hv7) hG hP (rc_o (q := 26) (ci := 1) hG hP (by decide) (wc_C (by decide) rfl) rfl) rfl hl.1 (Nat.le_of_ble_eq_true rfl) d_LK_goUnder_17) hS (fun H locs hP hS => ?_)
    obtain rfl := Option.some.inj hf
    exact hq _ _ _ _ d_LK_goUnder_20 hP hS
theorem c_LK_goUnder (l : Launch) (D : va_G) (adr : Nat → Nat) (cA : Nat → ClassId) (μ ν : Mem) (x1 : Int32)  {res : Mem} (hf : f_LK_goUnder μ x1 = some res) : Met l y_LK_goUnder (Cond.code y_LK_goUnder prog_3_method_6_code 5 (Option.none : Option Jvm.ClassFile.FieldType) :: lw_ok) rm_LK_goUnder (va_Pc [.ref (adr 26), .int x1] (Wd D adr cA μ ν)) (QV D adr cA res ν) 0 0 (AA adr) :=
  met_of (own := "LakeRelief$Lakes") rfl rfl (Nat.le_of_ble_eq_true rfl) (fun p e s m below meth c C hG hP hS ls hl => w_LK_goUnder x1  C hG hf (fun pc ls H locs hd hP hS => ret_v C.1 C.2.1 C.2.2.2.2.2.1 C.2.2.2.2.2.2 hG hd hP hS) hP hS hl)
end X_LK_goUnder
section X_RE_roomBelow
variable {p : Program} {l : Launch} {e : Env} {s : State} {m : MethodId} {args : Array Value} {below : List Frame} {meth : Method} {c : Code} {Q : State → Prop}
variable {D : va_G} {adr : Nat → Nat} {cA : Nat → ClassId} {μ ν : Mem}
theorem d_RE_roomBelow_0 : decode prog_4_method_24_code 0 = .ok (.iconst 0, 1) := by decide +kernel
theorem d_RE_roomBelow_1 : decode prog_4_method_24_code 1 = .ok (.istore 4, 2) := by decide +kernel
theorem d_RE_roomBelow_3 : decode prog_4_method_24_code 3 = .ok (.iconst 0, 1) := by decide +kernel
theorem d_RE_roomBelow_4 : decode prog_4_method_24_code 4 = .ok (.istore 5, 2) := by decide +kernel
theorem d_RE_roomBelow_6 : decode prog_4_method_24_code 6 = .ok (.iload 5, 2) := by decide +kernel
theorem d_RE_roomBelow_8 : decode prog_4_method_24_code 8 = .ok (.aload_n 0, 1) := by decide +kernel
theorem d_RE_roomBelow_9 : decode prog_4_method_24_code 9 = .ok (.getfield 37, 3) := by decide +kernel
theorem d_RE_roomBelow_12 : decode prog_4_method_24_code 12 = .ok (.if_icmp .ge 43, 3) := by decide +kernel
theorem d_RE_roomBelow_15 : decode prog_4_method_24_code 15 = .ok (.lload_n 1, 1) := by decide +kernel
theorem d_RE_roomBelow_16 : decode prog_4_method_24_code 16 = .ok (.iload 5, 2) := by decide +kernel
theorem d_RE_roomBelow_18 : decode prog_4_method_24_code 18 = .ok (.invokestatic 67, 3) := by decide +kernel
theorem d_RE_roomBelow_21 : decode prog_4_method_24_code 21 = .ok (.ifCond .eq 28, 3) := by decide +kernel
theorem d_RE_roomBelow_24 : decode prog_4_method_24_code 24 = .ok (.aload_n 0, 1) := by decide +kernel
theorem d_RE_roomBelow_25 : decode prog_4_method_24_code 25 = .ok (.getfield 9, 3) := by decide +kernel
theorem d_RE_roomBelow_28 : decode prog_4_method_24_code 28 = .ok (.iload 5, 2) := by decide +kernel
theorem d_RE_roomBelow_30 : decode prog_4_method_24_code 30 = .ok (.iaload, 1) := by decide +kernel
theorem d_RE_roomBelow_31 : decode prog_4_method_24_code 31 = .ok (.iload_n 3, 1) := by decide +kernel
theorem d_RE_roomBelow_32 : decode prog_4_method_24_code 32 = .ok (.if_icmp .ge 17, 3) := by decide +kernel
theorem d_RE_roomBelow_35 : decode prog_4_method_24_code 35 = .ok (.iload 4, 2) := by decide +kernel
theorem d_RE_roomBelow_37 : decode prog_4_method_24_code 37 = .ok (.iload_n 3, 1) := by decide +kernel
theorem d_RE_roomBelow_38 : decode prog_4_method_24_code 38 = .ok (.aload_n 0, 1) := by decide +kernel
theorem d_RE_roomBelow_39 : decode prog_4_method_24_code 39 = .ok (.getfield 9, 3) := by decide +kernel
theorem d_RE_roomBelow_42 : decode prog_4_method_24_code 42 = .ok (.iload 5, 2) := by decide +kernel
theorem d_RE_roomBelow_44 : decode prog_4_method_24_code 44 = .ok (.iaload, 1) := by decide +kernel
theorem d_RE_roomBelow_45 : decode prog_4_method_24_code 45 = .ok (.isub, 1) := by decide +kernel
theorem d_RE_roomBelow_46 : decode prog_4_method_24_code 46 = .ok (.iadd, 1) := by decide +kernel
theorem d_RE_roomBelow_47 : decode prog_4_method_24_code 47 = .ok (.istore 4, 2) := by decide +kernel
theorem d_RE_roomBelow_49 : decode prog_4_method_24_code 49 = .ok (.iinc 5 1, 3) := by decide +kernel
theorem d_RE_roomBelow_52 : decode prog_4_method_24_code 52 = .ok (.goto (-46), 3) := by decide +kernel
theorem d_RE_roomBelow_55 : decode prog_4_method_24_code 55 = .ok (.iload 4, 2) := by decide +kernel
theorem d_RE_roomBelow_57 : decode prog_4_method_24_code 57 = .ok (.ireturn, 1) := by decide +kernel
set_option maxHeartbeats 4000000 in
set_option maxRecDepth 100000 in
theorem w_RE_roomBelow_L6 (y1 : Int64) (y3 : Int32)  (C : Cx prog_4_method_24_code 6 "LakeRelief$Relief" (Option.some Jvm.ClassFile.FieldType.int) p s m args meth c) (hG : Geo D adr cA s) (v : Int32) (hE : ∀ (H : Heap) (locs : List Loc) (ls : Array Slot), va_P D cls (wld adr cA μ ν) H → va_S (AA adr) s.heap H locs → lv_has ls 6 [(4, .int v)] → W p l e rm_RE_roomBelow s m args below meth c H locs 0 0 Q (F0 m 55 ls [])) : ∀ (n : Nat) (y4 : Int32) (y5 : Int32), f_RE_roomBelow_L6 μ y1 y3 n y4 y5 = some v → ∀ {H : Heap} {locs : List Loc} {ls : Array Slot}, va_P D cls (wld adr cA μ ν) H → va_S (AA adr) s.heap H locs → lv_has ls 6 [(0, .ref (adr 18)), (1, .long y1), (3, .int y3), (4, .int y4), (5, .int y5)] → W p l e rm_RE_roomBelow s m args below meth c H locs 0 0 Q (F0 m 6 ls []) := by
  obtain ⟨hx, hb, hml, hown, hts, hr, hlocks⟩ := id C
  intro n
  induction n with
  | zero => intro y4 y5 hf; rw [f_RE_roomBelow_L6.eq_1] at hf; cases hf
  | succ n ih =>
    intro y4 y5 hf H locs ls hP hS hl
    rw [f_RE_roomBelow_L6.eq_2] at hf
    refine lv_iload hx hb d_RE_roomBelow_6 (lv_at hl 4 rfl) ?_
    refine lv_aload_n hx hb d_RE_roomBelow_8 rfl (lv_at hl 0 rfl) ?_
    refine g_RE_size hx hb hts hown hG hP (hts _ in_59) d_RE_roomBelow_9 ?_
    refine lv_icmp_ge (tgt := 55) hx hb d_RE_roomBelow_12 (by decide) (fun hc => ?_) (fun hc => ?_)
    · replace hf := if_p hc hf
      obtain rfl := Option.some.inj hf
      exact hE _ _ _ hP hS (lv_sub hl [3] rfl)
    · replace hf := if_n hc hf
      refine lv_lload_n hx hb d_RE_roomBelow_15 rfl (lv_at hl 1 rfl) ?_
      refine lv_iload hx hb d_RE_roomBelow_16 (lv_at hl 4 rfl) ?_
      refine ki (kn (As := [.long y1, .int y5]) (rest := []) ⟨hx, hb, hml, hown, hts⟩ (cw_RE_67 hts hG ⟨Nat.le_of_ble_eq_true rfl, Nat.le_of_ble_eq_true rfl⟩) (c_LR_isIn l D adr cA μ ν y1 y5) hG hP rfl hl.1 (Nat.le_of_ble_eq_true rfl) d_RE_roomBelow_18) hS (fun H locs hP hS => ?_)
      replace hf := B_some hf
      obtain ⟨v1, hv1, hf⟩ := hf
      have hJ : ∀ (H : Heap) (locs : List Loc) (ls : Array Slot), va_P D cls (wld adr cA μ ν) H → va_S (AA adr) s.heap H locs → lv_has ls 6 [(0, .ref (adr 18)), (1, .long y1), (3, .int y3), (4, .int v1), (5, .int y5)] → W p l e rm_RE_roomBelow s m args below meth c H locs 0 0 Q (F0 m 49 ls []) := by
        clear hv1
        intro H locs ls hP hS hl
        refine lv_iinc (v := (y5 + 1)) (lv' := [(5, .int (y5 + 1)), (0, .ref (adr 18)), (1, .long y1), (3, .int y3), (4, .int v1)]) hx hb d_RE_roomBelow_49 hl (k := 4) rfl rfl (by decide) rfl (fun ls hl => ?_)
        refine lv_goto (tgt := 6) hx hb d_RE_roomBelow_52 (by decide) ?_
        exact ih _ _ hf hP hS (lv_sub hl [1, 2, 3, 4, 0] rfl)
      clear hf
      have hf := hv1
      clear hv1
      refine lv_if_eq (tgt := 49) hx hb d_RE_roomBelow_21 (by decide) (fun hc => ?_) (fun hc => ?_)
      · replace hf := if_p hc hf
        obtain rfl := Option.some.inj hf
        exact hJ _ _ _ hP hS (lv_sub hl [0, 1, 2, 3, 4] rfl)
      · replace hf := if_n hc hf
        refine lv_aload_n hx hb d_RE_roomBelow_24 rfl (lv_at hl 0 rfl) ?_
        refine g_RE_height hx hb hts hown hG hP (hts _ in_44) d_RE_roomBelow_25 ?_
        refine lv_iload hx hb d_RE_roomBelow_28 (lv_at hl 4 rfl) ?_
        replace hf := G_some hf
        obtain ⟨hi2, hf⟩ := hf
        refine r_iald hx hb hG hP 19 64 (f := μ.1 19) (by decide) (wc_C (by decide) rfl) hi2 d_RE_roomBelow_30 ?_
        refine lv_iload_n hx hb d_RE_roomBelow_31 rfl (lv_at hl 2 rfl) ?_
        refine lv_icmp_ge (tgt := 49) hx hb d_RE_roomBelow_32 (by decide) (fun hc => ?_) (fun hc => ?_)
        · replace hf := if_p hc hf
          obtain rfl := Option.some.inj hf
          exact hJ _ _ _ hP hS (lv_sub hl [0, 1, 2, 3, 4] rfl)
        · replace hf := if_n hc hf
          refine lv_iload hx hb d_RE_roomBelow_35 (lv_at hl 3 rfl) ?_
          refine lv_iload_n hx hb d_RE_roomBelow_37 rfl (lv_at hl 2 rfl) ?_
          refine lv_aload_n hx hb d_RE_roomBelow_38 rfl (lv_at hl 0 rfl) ?_
          refine g_RE_height hx hb hts hown hG hP (hts _ in_44) d_RE_roomBelow_39 ?_
          refine lv_iload hx hb d_RE_roomBelow_42 (lv_at hl 4 rfl) ?_
          replace hf := G_some hf
          obtain ⟨hi3, hf⟩ := hf
          refine r_iald hx hb hG hP 19 64 (f := μ.1 19) (by decide) (wc_C (by decide) rfl) hi3 d_RE_roomBelow_44 ?_
          refine lv_isub hx hb d_RE_roomBelow_45 ?_
          refine lv_iadd hx hb d_RE_roomBelow_46 ?_
          refine lv_istore (lv' := [(4, .int (y4 + (y3 - (μ.1 19 y5.toNatClampNeg)))), (0, .ref (adr 18)), (1, .long y1), (3, .int y3), (5, .int y5)]) hx hb d_RE_roomBelow_47 hl (by decide) rfl (fun ls hl => ?_)
          obtain rfl := Option.some.inj hf
          exact hJ _ _ _ hP hS (lv_sub hl [1, 2, 3, 0, 4] rfl)
set_option maxHeartbeats 4000000 in
set_option maxRecDepth 100000 in
theorem w_RE_roomBelow (x1 : Int64) (x3 : Int32)  (C : Cx prog_4_method_24_code 6 "LakeRelief$Relief" (Option.some Jvm.ClassFile.FieldType.int) p s m args meth c) (hG : Geo D adr cA s) {res : Int32} (hf : f_RE_roomBelow μ x1 x3 = some res) (hq : ∀ (pc : Nat) (ls : Array Slot) (H : Heap) (locs : List Loc), decode prog_4_method_24_code pc = .ok (.ireturn, 1) → va_P D cls (wld adr cA μ ν) H → va_S (AA adr) s.heap H locs → W p l e rm_RE_roomBelow s m args below meth c H locs 0 0 Q (F0 m pc ls [.int res])) {H : Heap} {locs : List Loc} {ls : Array Slot} (hP : va_P D cls (wld adr cA μ ν) H) (hS : va_S (AA adr) s.heap H locs) (hl : lv_has ls 6 [(0, .ref (adr 18)), (1, .long x1), (3, .int x3)]) : W p l e rm_RE_roomBelow s m args below meth c H locs 0 0 Q (F0 m 0 ls []) := by
  obtain ⟨hx, hb, hml, hown, hts, hr, hlocks⟩ := id C
  unfold f_RE_roomBelow at hf
  refine lv_iconst (v := 0) hx hb d_RE_roomBelow_0 (by decide) ?_
  refine lv_istore (lv' := [(4, .int 0), (0, .ref (adr 18)), (1, .long x1), (3, .int x3)]) hx hb d_RE_roomBelow_1 hl (by decide) rfl (fun ls hl => ?_)
  refine lv_iconst (v := 0) hx hb d_RE_roomBelow_3 (by decide) ?_
  refine lv_istore (lv' := [(5, .int 0), (4, .int 0), (0, .ref (adr 18)), (1, .long x1), (3, .int x3)]) hx hb d_RE_roomBelow_4 hl (by decide) rfl (fun ls hl => ?_)
  replace hf := B_some hf
  obtain ⟨v4, hv4, hf⟩ := hf
  refine w_RE_roomBelow_L6 x1 x3  C hG v4 ?_ FU _ _ hv4 hP hS (lv_sub hl [2, 3, 4, 1, 0] rfl)
  clear hv4 hP hS hl
  intro H locs ls hP hS hl
  refine lv_iload hx hb d_RE_roomBelow_55 (lv_at hl 0 rfl) ?_
  obtain rfl := Option.some.inj hf
  exact hq _ _ _ _ d_RE_roomBelow_57 hP hS
theorem c_RE_roomBelow (l : Launch) (D : va_G) (adr : Nat → Nat) (cA : Nat → ClassId) (μ ν : Mem) (x1 : Int64) (x3 : Int32)  {res : Int32} (hf : f_RE_roomBelow μ x1 x3 = some res) : Met l y_RE_roomBelow (Cond.code y_RE_roomBelow prog_4_method_24_code 6 (Option.some Jvm.ClassFile.FieldType.int) :: lw_ok) rm_RE_roomBelow (va_Pc [.ref (adr 18), .long x1, .int x3] (Wd D adr cA μ ν)) (QI D adr cA res μ ν) 0 0 (AA adr) :=
  met_of (own := "LakeRelief$Relief") rfl rfl (Nat.le_of_ble_eq_true rfl) (fun p e s m below meth c C hG hP hS ls hl => w_RE_roomBelow x1 x3  C hG hf (fun pc ls H locs hd hP hS => ret_i C.1 C.2.1 C.2.2.2.2.2.1 C.2.2.2.2.2.2 hG hd hP hS) hP hS hl)
end X_RE_roomBelow
section X_LK_measure
variable {p : Program} {l : Launch} {e : Env} {s : State} {m : MethodId} {args : Array Value} {below : List Frame} {meth : Method} {c : Code} {Q : State → Prop}
variable {D : va_G} {adr : Nat → Nat} {cA : Nat → ClassId} {μ ν : Mem}
theorem d_LK_measure_0 : decode prog_3_method_5_code 0 = .ok (.aload_n 0, 1) := by decide +kernel
theorem d_LK_measure_1 : decode prog_3_method_5_code 1 = .ok (.getfield 9, 3) := by decide +kernel
theorem d_LK_measure_4 : decode prog_3_method_5_code 4 = .ok (.aload_n 1, 1) := by decide +kernel
theorem d_LK_measure_5 : decode prog_3_method_5_code 5 = .ok (.getfield 40, 3) := by decide +kernel
theorem d_LK_measure_8 : decode prog_3_method_5_code 8 = .ok (.invokevirtual 43, 3) := by decide +kernel
theorem d_LK_measure_11 : decode prog_3_method_5_code 11 = .ok (.ifCond .eq 30, 3) := by decide +kernel
theorem d_LK_measure_14 : decode prog_3_method_5_code 14 = .ok (.aload_n 1, 1) := by decide +kernel
theorem d_LK_measure_15 : decode prog_3_method_5_code 15 = .ok (.aload_n 0, 1) := by decide +kernel
theorem d_LK_measure_16 : decode prog_3_method_5_code 16 = .ok (.getfield 9, 3) := by decide +kernel
theorem d_LK_measure_19 : decode prog_3_method_5_code 19 = .ok (.aload_n 1, 1) := by decide +kernel
theorem d_LK_measure_20 : decode prog_3_method_5_code 20 = .ok (.getfield 67, 3) := by decide +kernel
theorem d_LK_measure_23 : decode prog_3_method_5_code 23 = .ok (.aload_n 0, 1) := by decide +kernel
theorem d_LK_measure_24 : decode prog_3_method_5_code 24 = .ok (.getfield 9, 3) := by decide +kernel
theorem d_LK_measure_27 : decode prog_3_method_5_code 27 = .ok (.getfield 49, 3) := by decide +kernel
theorem d_LK_measure_30 : decode prog_3_method_5_code 30 = .ok (.aload_n 1, 1) := by decide +kernel
theorem d_LK_measure_31 : decode prog_3_method_5_code 31 = .ok (.getfield 40, 3) := by decide +kernel
theorem d_LK_measure_34 : decode prog_3_method_5_code 34 = .ok (.iaload, 1) := by decide +kernel
theorem d_LK_measure_35 : decode prog_3_method_5_code 35 = .ok (.invokevirtual 70, 3) := by decide +kernel
theorem d_LK_measure_38 : decode prog_3_method_5_code 38 = .ok (.putfield 74, 3) := by decide +kernel
theorem d_LK_measure_41 : decode prog_3_method_5_code 41 = .ok (.aload_n 1, 1) := by decide +kernel
theorem d_LK_measure_42 : decode prog_3_method_5_code 42 = .ok (.invokevirtual 77, 3) := by decide +kernel
theorem d_LK_measure_45 : decode prog_3_method_5_code 45 = .ok (.ifCond .ne 8, 3) := by decide +kernel
theorem d_LK_measure_48 : decode prog_3_method_5_code 48 = .ok (.aload_n 1, 1) := by decide +kernel
theorem d_LK_measure_49 : decode prog_3_method_5_code 49 = .ok (.iconst 0, 1) := by decide +kernel
theorem d_LK_measure_50 : decode prog_3_method_5_code 50 = .ok (.invokevirtual 81, 3) := by decide +kernel
theorem d_LK_measure_53 : decode prog_3_method_5_code 53 = .ok (.return_, 1) := by decide +kernel
set_option maxHeartbeats 4000000 in
set_option maxRecDepth 100000 in
theorem w_LK_measure (x1 : Nat) (hx1 : x1 < 35) (C : Cx prog_3_method_5_code 2 "LakeRelief$Lakes" (Option.none : Option Jvm.ClassFile.FieldType) p s m args meth c) (hG : Geo D adr cA s) {res : Mem} (hf : f_LK_measure μ x1 = some res) (hq : ∀ (pc : Nat) (ls : Array Slot) (H : Heap) (locs : List Loc), decode prog_3_method_5_code pc = .ok (.return_, 1) → va_P D cls (wld adr cA res ν) H → va_S (AA adr) s.heap H locs → W p l e rm_LK_measure s m args below meth c H locs 0 0 Q (F0 m pc ls [])) {H : Heap} {locs : List Loc} {ls : Array Slot} (hP : va_P D cls (wld adr cA μ ν) H) (hS : va_S (AA adr) s.heap H locs) (hl : lv_has ls 2 [(0, .ref (adr 26)), (1, .ref (adr (28 + x1)))]) : W p l e rm_LK_measure s m args below meth c H locs 0 0 Q (F0 m 0 ls []) := by
  obtain ⟨hx, hb, hml, hown, hts, hr, hlocks⟩ := id C
  unfold f_LK_measure at hf
  refine lv_aload_n hx hb d_LK_measure_0 rfl (lv_at hl 0 rfl) ?_
  refine g_LK_relief hx hb hts hown hG hP (hts _ in_160) d_LK_measure_1 ?_
  refine lv_aload_n hx hb d_LK_measure_4 rfl (lv_at hl 1 rfl) ?_
  refine g_LA_rim hx hb hts hown hG hP hx1 (hts _ in_115) d_LK_measure_5 ?_
  refine ki (kv (As := [.int (μ.1 (28 + x1) 1)]) (rest := []) ⟨hx, hb, hml, hown, hts⟩ (cw_LK_43 hts ⟨Nat.le_of_ble_eq_true rfl, Nat.le_of_ble_eq_true rfl⟩) (c_RE_isLand l D adr cA μ ν (μ.1 (28 + x1) 1)) hG hP (rc_o (q := 18) (ci := 2) hG hP (by decide) (wc_C (by decide) rfl) rfl) rfl hl.1 (Nat.le_of_ble_eq_true rfl) d_LK_measure_8) hS (fun H locs hP hS => ?_)
  replace hf := B_some hf
  obtain ⟨v1, hv1, hf⟩ := hf
  have hJ : ∀ (H : Heap) (locs : List Loc) (ls : Array Slot), va_P D cls (wld adr cA v1 ν) H → va_S (AA adr) s.heap H locs → lv_has ls 2 [(1, .ref (adr (28 + x1)))] → W p l e rm_LK_measure s m args below meth c H locs 0 0 Q (F0 m 41 ls []) := by
    clear hv1
    intro H locs ls hP hS hl
    refine lv_aload_n hx hb d_LK_measure_41 rfl (lv_at hl 0 rfl) ?_
    refine ki (kv (As := []) (rest := []) ⟨hx, hb, hml, hown, hts⟩ (cw_LK_77 hts ⟨Nat.le_of_ble_eq_true rfl, Nat.le_of_ble_eq_true rfl⟩) (c_LA_isDouble l D adr cA v1 ν x1 hx1) hG hP (rc_o (q := (28 + x1)) (ci := 0) hG hP (by have := hx1; omega) (wc_C (by have := hx1; omega) (sh_LA)) rfl) rfl hl.1 (Nat.le_of_ble_eq_true rfl) d_LK_measure_42) hS (fun H locs hP hS => ?_)
    refine lv_if_ne (tgt := 53) hx hb d_LK_measure_45 (by decide) (fun hc => ?_) (fun hc => ?_)
    · replace hf := if_n hc hf
      obtain rfl := Option.some.inj hf
      exact hq _ _ _ _ d_LK_measure_53 hP hS
    · replace hf := if_p hc hf
      refine lv_aload_n hx hb d_LK_measure_48 rfl (lv_at hl 0 rfl) ?_
      refine lv_iconst (v := 0) hx hb d_LK_measure_49 (by decide) ?_
      refine kw (kv (As := [.int 0]) (rest := []) ⟨hx, hb, hml, hown, hts⟩ (cw_LK_81 hts ⟨Nat.le_of_ble_eq_true rfl, Nat.le_of_ble_eq_true rfl⟩) (c_LA_appear l D adr cA v1 ν x1 0 hx1) hG hP (rc_o (q := (28 + x1)) (ci := 0) hG hP (by have := hx1; omega) (wc_C (by have := hx1; omega) (sh_LA)) rfl) rfl hl.1 (Nat.le_of_ble_eq_true rfl) d_LK_measure_50) hS (fun H locs hP hS => ?_)
      obtain rfl := Option.some.inj hf
      exact hq _ _ _ _ d_LK_measure_53 hP hS
  clear hf
  have hf := hv1
  clear hv1
  refine lv_if_eq (tgt := 41) hx hb d_LK_measure_11 (by decide) (fun hc => ?_) (fun hc => ?_)
  · replace hf := if_p hc hf
    obtain rfl := Option.some.inj hf
    exact hJ _ _ _ hP hS (lv_sub hl [1] rfl)
  · replace hf := if_n hc hf
    refine lv_aload_n hx hb d_LK_measure_14 rfl (lv_at hl 1 rfl) ?_
    refine lv_aload_n hx hb d_LK_measure_15 rfl (lv_at hl 0 rfl) ?_
    refine g_LK_relief hx hb hts hown hG hP (hts _ in_160) d_LK_measure_16 ?_
    refine lv_aload_n hx hb d_LK_measure_19 rfl (lv_at hl 1 rfl) ?_
    refine g_LA_fields hx hb hts hown hG hP hx1 (hts _ in_112) d_LK_measure_20 ?_
    refine lv_aload_n hx hb d_LK_measure_23 rfl (lv_at hl 0 rfl) ?_
    refine g_LK_relief hx hb hts hown hG hP (hts _ in_160) d_LK_measure_24 ?_
    refine g_RE_height hx hb hts hown hG hP (hts _ in_45) d_LK_measure_27 ?_
    refine lv_aload_n hx hb d_LK_measure_30 rfl (lv_at hl 1 rfl) ?_
    refine g_LA_rim hx hb hts hown hG hP hx1 (hts _ in_115) d_LK_measure_31 ?_
    replace hf := G_some hf
    obtain ⟨hi2, hf⟩ := hf
    refine r_iald hx hb hG hP 19 64 (f := μ.1 19) (by decide) (wc_C (by decide) rfl) hi2 d_LK_measure_34 ?_
    replace hf := B_some hf
    obtain ⟨v3, hv3, hf⟩ := hf
    refine ki (kv (As := [.long (μ.2 (28 + x1) 0), .int (μ.1 19 (μ.1 (28 + x1) 1).toNatClampNeg)]) (rest := [.ref (adr (28 + x1))]) ⟨hx, hb, hml, hown, hts⟩ (cw_LK_70 hts ⟨Nat.le_of_ble_eq_true rfl, Nat.le_of_ble_eq_true rfl⟩) (c_RE_roomBelow l D adr cA μ ν (μ.2 (28 + x1) 0) (μ.1 19 (μ.1 (28 + x1) 1).toNatClampNeg) hv3) hG hP (rc_o (q := 18) (ci := 2) hG hP (by decide) (wc_C (by decide) rfl) rfl) rfl hl.1 (Nat.le_of_ble_eq_true rfl) d_LK_measure_35) hS (fun H locs hP hS => ?_)
    refine p_LA_most hx hb hts hown hG hP hS hx1 (hts _ in_127) d_LK_measure_38 (fun H locs hP hS => ?_)
    obtain rfl := Option.some.inj hf
    exact hJ _ _ _ hP hS (lv_sub hl [1] rfl)
theorem c_LK_measure (l : Launch) (D : va_G) (adr : Nat → Nat) (cA : Nat → ClassId) (μ ν : Mem) (x1 : Nat) (hx1 : x1 < 35) {res : Mem} (hf : f_LK_measure μ x1 = some res) : Met l y_LK_measure (Cond.code y_LK_measure prog_3_method_5_code 2 (Option.none : Option Jvm.ClassFile.FieldType) :: lw_ok) rm_LK_measure (va_Pc [.ref (adr 26), .ref (adr (28 + x1))] (Wd D adr cA μ ν)) (QV D adr cA res ν) 0 0 (AA adr) :=
  met_of (own := "LakeRelief$Lakes") rfl rfl (Nat.le_of_ble_eq_true rfl) (fun p e s m below meth c C hG hP hS ls hl => w_LK_measure x1 hx1 C hG hf (fun pc ls H locs hd hP hS => ret_v C.1 C.2.1 C.2.2.2.2.2.1 C.2.2.2.2.2.2 hG hd hP hS) hP hS hl)
end X_LK_measure
section X_LK_come
variable {p : Program} {l : Launch} {e : Env} {s : State} {m : MethodId} {args : Array Value} {below : List Frame} {meth : Method} {c : Code} {Q : State → Prop}
variable {D : va_G} {adr : Nat → Nat} {cA : Nat → ClassId} {μ ν : Mem}
theorem d_LK_come_0 : decode prog_3_method_4_code 0 = .ok (.aload_n 0, 1) := by decide +kernel
theorem d_LK_come_1 : decode prog_3_method_4_code 1 = .ok (.iconst 0, 1) := by decide +kernel
theorem d_LK_come_2 : decode prog_3_method_4_code 2 = .ok (.putfield 22, 3) := by decide +kernel
theorem d_LK_come_5 : decode prog_3_method_4_code 5 = .ok (.aload_n 0, 1) := by decide +kernel
theorem d_LK_come_6 : decode prog_3_method_4_code 6 = .ok (.lconst 0, 1) := by decide +kernel
theorem d_LK_come_7 : decode prog_3_method_4_code 7 = .ok (.putfield 26, 3) := by decide +kernel
theorem d_LK_come_10 : decode prog_3_method_4_code 10 = .ok (.aload_n 0, 1) := by decide +kernel
theorem d_LK_come_11 : decode prog_3_method_4_code 11 = .ok (.lconst 0, 1) := by decide +kernel
theorem d_LK_come_12 : decode prog_3_method_4_code 12 = .ok (.putfield 30, 3) := by decide +kernel
theorem d_LK_come_15 : decode prog_3_method_4_code 15 = .ok (.aload_n 0, 1) := by decide +kernel
theorem d_LK_come_16 : decode prog_3_method_4_code 16 = .ok (.lconst 0, 1) := by decide +kernel
theorem d_LK_come_17 : decode prog_3_method_4_code 17 = .ok (.putfield 33, 3) := by decide +kernel
theorem d_LK_come_20 : decode prog_3_method_4_code 20 = .ok (.iconst 0, 1) := by decide +kernel
theorem d_LK_come_21 : decode prog_3_method_4_code 21 = .ok (.istore_n 1, 1) := by decide +kernel
theorem d_LK_come_22 : decode prog_3_method_4_code 22 = .ok (.iload_n 1, 1) := by decide +kernel
theorem d_LK_come_23 : decode prog_3_method_4_code 23 = .ok (.aload_n 0, 1) := by decide +kernel
theorem d_LK_come_24 : decode prog_3_method_4_code 24 = .ok (.getfield 9, 3) := by decide +kernel
theorem d_LK_come_27 : decode prog_3_method_4_code 27 = .ok (.getfield 53, 3) := by decide +kernel
theorem d_LK_come_30 : decode prog_3_method_4_code 30 = .ok (.if_icmp .ge 22, 3) := by decide +kernel
theorem d_LK_come_33 : decode prog_3_method_4_code 33 = .ok (.aload_n 0, 1) := by decide +kernel
theorem d_LK_come_34 : decode prog_3_method_4_code 34 = .ok (.aload_n 0, 1) := by decide +kernel
theorem d_LK_come_35 : decode prog_3_method_4_code 35 = .ok (.getfield 9, 3) := by decide +kernel
theorem d_LK_come_38 : decode prog_3_method_4_code 38 = .ok (.getfield 56, 3) := by decide +kernel
theorem d_LK_come_41 : decode prog_3_method_4_code 41 = .ok (.iload_n 1, 1) := by decide +kernel
theorem d_LK_come_42 : decode prog_3_method_4_code 42 = .ok (.iaload, 1) := by decide +kernel
theorem d_LK_come_43 : decode prog_3_method_4_code 43 = .ok (.invokevirtual 59, 3) := by decide +kernel
theorem d_LK_come_46 : decode prog_3_method_4_code 46 = .ok (.iinc 1 1, 3) := by decide +kernel
theorem d_LK_come_49 : decode prog_3_method_4_code 49 = .ok (.goto (-27), 3) := by decide +kernel
theorem d_LK_come_52 : decode prog_3_method_4_code 52 = .ok (.iconst 0, 1) := by decide +kernel
theorem d_LK_come_53 : decode prog_3_method_4_code 53 = .ok (.istore_n 1, 1) := by decide +kernel
theorem d_LK_come_54 : decode prog_3_method_4_code 54 = .ok (.iload_n 1, 1) := by decide +kernel
theorem d_LK_come_55 : decode prog_3_method_4_code 55 = .ok (.aload_n 0, 1) := by decide +kernel
theorem d_LK_come_56 : decode prog_3_method_4_code 56 = .ok (.getfield 22, 3) := by decide +kernel
theorem d_LK_come_59 : decode prog_3_method_4_code 59 = .ok (.if_icmp .ge 19, 3) := by decide +kernel
theorem d_LK_come_62 : decode prog_3_method_4_code 62 = .ok (.aload_n 0, 1) := by decide +kernel
theorem d_LK_come_63 : decode prog_3_method_4_code 63 = .ok (.aload_n 0, 1) := by decide +kernel
theorem d_LK_come_64 : decode prog_3_method_4_code 64 = .ok (.getfield 17, 3) := by decide +kernel
theorem d_LK_come_67 : decode prog_3_method_4_code 67 = .ok (.iload_n 1, 1) := by decide +kernel
theorem d_LK_come_68 : decode prog_3_method_4_code 68 = .ok (.aaload, 1) := by decide +kernel
theorem d_LK_come_69 : decode prog_3_method_4_code 69 = .ok (.invokevirtual 63, 3) := by decide +kernel
theorem d_LK_come_72 : decode prog_3_method_4_code 72 = .ok (.iinc 1 1, 3) := by decide +kernel
theorem d_LK_come_75 : decode prog_3_method_4_code 75 = .ok (.goto (-21), 3) := by decide +kernel
theorem d_LK_come_78 : decode prog_3_method_4_code 78 = .ok (.return_, 1) := by decide +kernel
set_option maxHeartbeats 4000000 in
set_option maxRecDepth 100000 in
theorem w_LK_come_L22   (C : Cx prog_3_method_4_code 2 "LakeRelief$Lakes" (Option.none : Option Jvm.ClassFile.FieldType) p s m args meth c) (hG : Geo D adr cA s) (v : Mem) (hE : ∀ (H : Heap) (locs : List Loc) (ls : Array Slot), va_P D cls (wld adr cA v ν) H → va_S (AA adr) s.heap H locs → lv_has ls 2 [(0, .ref (adr 26))] → W p l e rm_LK_come s m args below meth c H locs 0 0 Q (F0 m 52 ls [])) : ∀ (n : Nat) (μ : Mem) (y1 : Int32), f_LK_come_L22 n μ y1 = some v → ∀ {H : Heap} {locs : List Loc} {ls : Array Slot}, va_P D cls (wld adr cA μ ν) H → va_S (AA adr) s.heap H locs → lv_has ls 2 [(0, .ref (adr 26)), (1, .int y1)] → W p l e rm_LK_come s m args below meth c H locs 0 0 Q (F0 m 22 ls []) := by
  obtain ⟨hx, hb, hml, hown, hts, hr, hlocks⟩ := id C
  intro n
  induction n with
  | zero => intro μ y1 hf; rw [f_LK_come_L22.eq_1] at hf; cases hf
  | succ n ih =>
    intro μ y1 hf H locs ls hP hS hl
    rw [f_LK_come_L22.eq_2] at hf
    refine lv_iload_n hx hb d_LK_come_22 rfl (lv_at hl 1 rfl) ?_
    refine lv_aload_n hx hb d_LK_come_23 rfl (lv_at hl 0 rfl) ?_
    refine g_LK_relief hx hb hts hown hG hP (hts _ in_160) d_LK_come_24 ?_
    refine g_RE_landCount hx hb hts hown hG hP (hts _ in_62) d_LK_come_27 ?_
    refine lv_icmp_ge (tgt := 52) hx hb d_LK_come_30 (by decide) (fun hc => ?_) (fun hc => ?_)
    · replace hf := if_p hc hf
      obtain rfl := Option.some.inj hf
      exact hE _ _ _ hP hS (lv_sub hl [0] rfl)
    · replace hf := if_n hc hf
      refine lv_aload_n hx hb d_LK_come_33 rfl (lv_at hl 0 rfl) ?_
      refine lv_aload_n hx hb d_LK_come_34 rfl (lv_at hl 0 rfl) ?_
      refine g_LK_relief hx hb hts hown hG hP (hts _ in_160) d_LK_come_35 ?_
      refine g_RE_order hx hb hts hown hG hP (hts _ in_55) d_LK_come_38 ?_
      refine lv_iload_n hx hb d_LK_come_41 rfl (lv_at hl 1 rfl) ?_
      replace hf := G_some hf
      obtain ⟨hi1, hf⟩ := hf
      refine r_iald hx hb hG hP 23 64 (f := μ.1 23) (by decide) (wc_C (by decide) rfl) hi1 d_LK_come_42 ?_
      replace hf := B_some hf
      obtain ⟨v2, hv2, hf⟩ := hf
      refine kw (kv (As := [.int (μ.1 23 y1.toNatClampNeg)]) (rest := []) ⟨hx, hb, hml, hown, hts⟩ (cw_LK_59 hts ⟨Nat.le_of_ble_eq_true rfl, Nat.le_of_ble_eq_true rfl⟩) (c_LK_goUnder l D adr cA μ ν (μ.1 23 y1.toNatClampNeg) hv2) hG hP (rc_o (q := 26) (ci := 1) hG hP (by decide) (wc_C (by decide) rfl) rfl) rfl hl.1 (Nat.le_of_ble_eq_true rfl) d_LK_come_43) hS (fun H locs hP hS => ?_)
      refine lv_iinc (v := (y1 + 1)) (lv' := [(1, .int (y1 + 1)), (0, .ref (adr 26))]) hx hb d_LK_come_46 hl (k := 1) rfl rfl (by decide) rfl (fun ls hl => ?_)
      refine lv_goto (tgt := 22) hx hb d_LK_come_49 (by decide) ?_
      exact ih _ _ hf hP hS (lv_sub hl [1, 0] rfl)
set_option maxHeartbeats 4000000 in
set_option maxRecDepth 100000 in
theorem w_LK_come_L54   (C : Cx prog_3_method_4_code 2 "LakeRelief$Lakes" (Option.none : Option Jvm.ClassFile.FieldType) p s m args meth c) (hG : Geo D adr cA s) (v : Mem) (hE : ∀ (H : Heap) (locs : List Loc) (ls : Array Slot), va_P D cls (wld adr cA v ν) H → va_S (AA adr) s.heap H locs → lv_has ls 2 [] → W p l e rm_LK_come s m args below meth c H locs 0 0 Q (F0 m 78 ls [])) : ∀ (n : Nat) (μ : Mem) (y1 : Int32), f_LK_come_L54 n μ y1 = some v → ∀ {H : Heap} {locs : List Loc} {ls : Array Slot}, va_P D cls (wld adr cA μ ν) H → va_S (AA adr) s.heap H locs → lv_has ls 2 [(0, .ref (adr 26)), (1, .int y1)] → W p l e rm_LK_come s m args below meth c H locs 0 0 Q (F0 m 54 ls []) := by
  obtain ⟨hx, hb, hml, hown, hts, hr, hlocks⟩ := id C
  intro n
  induction n with
  | zero => intro μ y1 hf; rw [f_LK_come_L54.eq_1] at hf; cases hf
  | succ n ih =>
    intro μ y1 hf H locs ls hP hS hl
    rw [f_LK_come_L54.eq_2] at hf
    refine lv_iload_n hx hb d_LK_come_54 rfl (lv_at hl 1 rfl) ?_
    refine lv_aload_n hx hb d_LK_come_55 rfl (lv_at hl 0 rfl) ?_
    refine g_LK_number hx hb hts hown hG hP (hts _ in_154) d_LK_come_56 ?_
    refine lv_icmp_ge (tgt := 78) hx hb d_LK_come_59 (by decide) (fun hc => ?_) (fun hc => ?_)
    · replace hf := if_p hc hf
      obtain rfl := Option.some.inj hf
      exact hE _ _ _ hP hS (lv_sub hl [] rfl)
    · replace hf := if_n hc hf
      refine lv_aload_n hx hb d_LK_come_62 rfl (lv_at hl 0 rfl) ?_
      refine lv_aload_n hx hb d_LK_come_63 rfl (lv_at hl 0 rfl) ?_
      refine g_LK_all hx hb hts hown hG hP (hts _ in_152) d_LK_come_64 ?_
      refine lv_iload_n hx hb d_LK_come_67 rfl (lv_at hl 1 rfl) ?_
      replace hf := G_some hf
      obtain ⟨hi4, hf⟩ := hf
      refine r_aLA hx hb hG hP hi4 d_LK_come_68 ?_
      replace hf := B_some hf
      obtain ⟨v5, hv5, hf⟩ := hf
      refine kw (kv (As := [.ref (adr (28 + y1.toNatClampNeg))]) (rest := []) ⟨hx, hb, hml, hown, hts⟩ (cw_LK_63 hts ⟨Nat.le_of_ble_eq_true rfl, Nat.le_of_ble_eq_true rfl⟩) (c_LK_measure l D adr cA μ ν y1.toNatClampNeg (vin_lt hi4) hv5) hG hP (rc_o (q := 26) (ci := 1) hG hP (by decide) (wc_C (by decide) rfl) rfl) rfl hl.1 (Nat.le_of_ble_eq_true rfl) d_LK_come_69) hS (fun H locs hP hS => ?_)
      refine lv_iinc (v := (y1 + 1)) (lv' := [(1, .int (y1 + 1)), (0, .ref (adr 26))]) hx hb d_LK_come_72 hl (k := 1) rfl rfl (by decide) rfl (fun ls hl => ?_)
      refine lv_goto (tgt := 54) hx hb d_LK_come_75 (by decide) ?_
      exact ih _ _ hf hP hS (lv_sub hl [1, 0] rfl)
set_option maxHeartbeats 4000000 in
set_option maxRecDepth 100000 in
theorem w_LK_come   (C : Cx prog_3_method_4_code 2 "LakeRelief$Lakes" (Option.none : Option Jvm.ClassFile.FieldType) p s m args meth c) (hG : Geo D adr cA s) {res : Mem} (hf : f_LK_come μ  = some res) (hq : ∀ (pc : Nat) (ls : Array Slot) (H : Heap) (locs : List Loc), decode prog_3_method_4_code pc = .ok (.return_, 1) → va_P D cls (wld adr cA res ν) H → va_S (AA adr) s.heap H locs → W p l e rm_LK_come s m args below meth c H locs 0 0 Q (F0 m pc ls [])) {H : Heap} {locs : List Loc} {ls : Array Slot} (hP : va_P D cls (wld adr cA μ ν) H) (hS : va_S (AA adr) s.heap H locs) (hl : lv_has ls 2 [(0, .ref (adr 26))]) : W p l e rm_LK_come s m args below meth c H locs 0 0 Q (F0 m 0 ls []) := by
  obtain ⟨hx, hb, hml, hown, hts, hr, hlocks⟩ := id C
  unfold f_LK_come at hf
  refine lv_aload_n hx hb d_LK_come_0 rfl (lv_at hl 0 rfl) ?_
  refine lv_iconst (v := 0) hx hb d_LK_come_1 (by decide) ?_
  refine p_LK_number hx hb hts hown hG hP hS (hts _ in_154) d_LK_come_2 (fun H locs hP hS => ?_)
  refine lv_aload_n hx hb d_LK_come_5 rfl (lv_at hl 0 rfl) ?_
  refine lv_lconst (v := 0) hx hb d_LK_come_6 (by decide) ?_
  refine p_LK_gone hx hb hts hown hG hP hS (hts _ in_156) d_LK_come_7 (fun H locs hP hS => ?_)
  refine lv_aload_n hx hb d_LK_come_10 rfl (lv_at hl 0 rfl) ?_
  refine lv_lconst (v := 0) hx hb d_LK_come_11 (by decide) ?_
  refine p_LK_poured hx hb hts hown hG hP hS (hts _ in_158) d_LK_come_12 (fun H locs hP hS => ?_)
  refine lv_aload_n hx hb d_LK_come_15 rfl (lv_at hl 0 rfl) ?_
  refine lv_lconst (v := 0) hx hb d_LK_come_16 (by decide) ?_
  refine p_LK_seas hx hb hts hown hG hP hS (hts _ in_161) d_LK_come_17 (fun H locs hP hS => ?_)
  refine lv_iconst (v := 0) hx hb d_LK_come_20 (by decide) ?_
  refine lv_istore_n (lv' := [(1, .int 0), (0, .ref (adr 26))]) hx hb d_LK_come_21 rfl hl (by decide) rfl (fun ls hl => ?_)
  replace hf := B_some hf
  obtain ⟨v3, hv3, hf⟩ := hf
  refine w_LK_come_L22   C hG v3 ?_ FU _ _ hv3 hP hS (lv_sub hl [1, 0] rfl)
  clear hv3 hP hS hl
  intro H locs ls hP hS hl
  refine lv_iconst (v := 0) hx hb d_LK_come_52 (by decide) ?_
  refine lv_istore_n (lv' := [(1, .int 0), (0, .ref (adr 26))]) hx hb d_LK_come_53 rfl hl (by decide) rfl (fun ls hl => ?_)
  replace hf := B_some hf
  obtain ⟨v6, hv6, hf⟩ := hf
  refine w_LK_come_L54   C hG v6 ?_ FU _ _ hv6 hP hS (lv_sub hl [1, 0] rfl)
  clear hv6 hP hS hl
  intro H locs ls hP hS hl
  obtain rfl := Option.some.inj hf
  exact hq _ _ _ _ d_LK_come_78 hP hS
theorem c_LK_come (l : Launch) (D : va_G) (adr : Nat → Nat) (cA : Nat → ClassId) (μ ν : Mem)   {res : Mem} (hf : f_LK_come μ  = some res) : Met l y_LK_come (Cond.code y_LK_come prog_3_method_4_code 2 (Option.none : Option Jvm.ClassFile.FieldType) :: lw_ok) rm_LK_come (va_Pc [.ref (adr 26)] (Wd D adr cA μ ν)) (QV D adr cA res ν) 0 0 (AA adr) :=
  met_of (own := "LakeRelief$Lakes") rfl rfl (Nat.le_of_ble_eq_true rfl) (fun p e s m below meth c C hG hP hS ls hl => w_LK_come   C hG hf (fun pc ls H locs hd hP hS => ret_v C.1 C.2.1 C.2.2.2.2.2.1 C.2.2.2.2.2.2 hG hd hP hS) hP hS hl)
end X_LK_come
section X_LK_thereWith
variable {p : Program} {l : Launch} {e : Env} {s : State} {m : MethodId} {args : Array Value} {below : List Frame} {meth : Method} {c : Code} {Q : State → Prop}
variable {D : va_G} {adr : Nat → Nat} {cA : Nat → ClassId} {μ ν : Mem}
theorem d_LK_thereWith_0 : decode prog_3_method_14_code 0 = .ok (.iconst 0, 1) := by decide +kernel
theorem d_LK_thereWith_1 : decode prog_3_method_14_code 1 = .ok (.istore_n 2, 1) := by decide +kernel
theorem d_LK_thereWith_2 : decode prog_3_method_14_code 2 = .ok (.iload_n 2, 1) := by decide +kernel
theorem d_LK_thereWith_3 : decode prog_3_method_14_code 3 = .ok (.aload_n 0, 1) := by decide +kernel
theorem d_LK_thereWith_4 : decode prog_3_method_14_code 4 = .ok (.getfield 22, 3) := by decide +kernel
theorem d_LK_thereWith_7 : decode prog_3_method_14_code 7 = .ok (.if_icmp .ge 39, 3) := by decide +kernel
theorem d_LK_thereWith_10 : decode prog_3_method_14_code 10 = .ok (.aload_n 0, 1) := by decide +kernel
theorem d_LK_thereWith_11 : decode prog_3_method_14_code 11 = .ok (.getfield 17, 3) := by decide +kernel
theorem d_LK_thereWith_14 : decode prog_3_method_14_code 14 = .ok (.iload_n 2, 1) := by decide +kernel
theorem d_LK_thereWith_15 : decode prog_3_method_14_code 15 = .ok (.aaload, 1) := by decide +kernel
theorem d_LK_thereWith_16 : decode prog_3_method_14_code 16 = .ok (.getfield 139, 3) := by decide +kernel
theorem d_LK_thereWith_19 : decode prog_3_method_14_code 19 = .ok (.ifCond .eq 21, 3) := by decide +kernel
theorem d_LK_thereWith_22 : decode prog_3_method_14_code 22 = .ok (.aload_n 0, 1) := by decide +kernel
theorem d_LK_thereWith_23 : decode prog_3_method_14_code 23 = .ok (.getfield 17, 3) := by decide +kernel
theorem d_LK_thereWith_26 : decode prog_3_method_14_code 26 = .ok (.iload_n 2, 1) := by decide +kernel
theorem d_LK_thereWith_27 : decode prog_3_method_14_code 27 = .ok (.aaload, 1) := by decide +kernel
theorem d_LK_thereWith_28 : decode prog_3_method_14_code 28 = .ok (.getfield 67, 3) := by decide +kernel
theorem d_LK_thereWith_31 : decode prog_3_method_14_code 31 = .ok (.iload_n 1, 1) := by decide +kernel
theorem d_LK_thereWith_32 : decode prog_3_method_14_code 32 = .ok (.invokestatic 123, 3) := by decide +kernel
theorem d_LK_thereWith_35 : decode prog_3_method_14_code 35 = .ok (.ifCond .eq 5, 3) := by decide +kernel
theorem d_LK_thereWith_38 : decode prog_3_method_14_code 38 = .ok (.iload_n 2, 1) := by decide +kernel
theorem d_LK_thereWith_39 : decode prog_3_method_14_code 39 = .ok (.ireturn, 1) := by decide +kernel
theorem d_LK_thereWith_40 : decode prog_3_method_14_code 40 = .ok (.iinc 2 1, 3) := by decide +kernel
theorem d_LK_thereWith_43 : decode prog_3_method_14_code 43 = .ok (.goto (-41), 3) := by decide +kernel
theorem d_LK_thereWith_46 : decode prog_3_method_14_code 46 = .ok (.bipush (-3), 2) := by decide +kernel
theorem d_LK_thereWith_48 : decode prog_3_method_14_code 48 = .ok (.ireturn, 1) := by decide +kernel
set_option maxHeartbeats 4000000 in
set_option maxRecDepth 100000 in
theorem w_LK_thereWith_L2 (y1 : Int32)  (C : Cx prog_3_method_14_code 3 "LakeRelief$Lakes" (Option.some Jvm.ClassFile.FieldType.int) p s m args meth c) (hG : Geo D adr cA s) (K : Unit → Option (Int32)) {res : Int32} (hq : ∀ (pc : Nat) (ls : Array Slot) (H : Heap) (locs : List Loc), decode prog_3_method_14_code pc = .ok (.ireturn, 1) → va_P D cls (wld adr cA μ ν) H → va_S (AA adr) s.heap H locs → W p l e rm_LK_thereWith s m args below meth c H locs 0 0 Q (F0 m pc ls [.int res])) (hE : ∀ (u : Unit), K u = some res → ∀ (H : Heap) (locs : List Loc) (ls : Array Slot), va_P D cls (wld adr cA μ ν) H → va_S (AA adr) s.heap H locs → lv_has ls 3 [] → W p l e rm_LK_thereWith s m args below meth c H locs 0 0 Q (F0 m 46 ls [])) : ∀ (n : Nat) (y2 : Int32), f_LK_thereWith_L2 μ y1 K n y2 = some res → ∀ {H : Heap} {locs : List Loc} {ls : Array Slot}, va_P D cls (wld adr cA μ ν) H → va_S (AA adr) s.heap H locs → lv_has ls 3 [(0, .ref (adr 26)), (1, .int y1), (2, .int y2)] → W p l e rm_LK_thereWith s m args below meth c H locs 0 0 Q (F0 m 2 ls []) := by
  obtain ⟨hx, hb, hml, hown, hts, hr, hlocks⟩ := id C
  intro n
  induction n with
  | zero => intro y2 hf; rw [f_LK_thereWith_L2.eq_1] at hf; cases hf
  | succ n ih =>
    intro y2 hf H locs ls hP hS hl
    rw [f_LK_thereWith_L2.eq_2] at hf
    refine lv_iload_n hx hb d_LK_thereWith_2 rfl (lv_at hl 2 rfl) ?_
    refine lv_aload_n hx hb d_LK_thereWith_3 rfl (lv_at hl 0 rfl) ?_
    refine g_LK_number hx hb hts hown hG hP (hts _ in_154) d_LK_thereWith_4 ?_
    refine lv_icmp_ge (tgt := 46) hx hb d_LK_thereWith_7 (by decide) (fun hc => ?_) (fun hc => ?_)
    · replace hf := if_p hc hf
      exact hE _ hf _ _ _ hP hS (lv_sub hl [] rfl)
    · replace hf := if_n hc hf
      refine lv_aload_n hx hb d_LK_thereWith_10 rfl (lv_at hl 0 rfl) ?_
      refine g_LK_all hx hb hts hown hG hP (hts _ in_152) d_LK_thereWith_11 ?_
      refine lv_iload_n hx hb d_LK_thereWith_14 rfl (lv_at hl 2 rfl) ?_
      replace hf := G_some hf
      obtain ⟨hi1, hf⟩ := hf
      refine r_aLA hx hb hG hP hi1 d_LK_thereWith_15 ?_
      refine g_LA_isThere hx hb hts hown hG hP (vin_lt hi1) (hts _ in_131) d_LK_thereWith_16 ?_
      refine lv_if_eq (tgt := 40) hx hb d_LK_thereWith_19 (by decide) (fun hc => ?_) (fun hc => ?_)
      · replace hf := if_p hc hf
        refine lv_iinc (v := (y2 + 1)) (lv' := [(2, .int (y2 + 1)), (0, .ref (adr 26)), (1, .int y1)]) hx hb d_LK_thereWith_40 hl (k := 2) rfl rfl (by decide) rfl (fun ls hl => ?_)
        refine lv_goto (tgt := 2) hx hb d_LK_thereWith_43 (by decide) ?_
        exact ih _ hf hP hS (lv_sub hl [1, 2, 0] rfl)
      · replace hf := if_n hc hf
        refine lv_aload_n hx hb d_LK_thereWith_22 rfl (lv_at hl 0 rfl) ?_
        refine g_LK_all hx hb hts hown hG hP (hts _ in_152) d_LK_thereWith_23 ?_
        refine lv_iload_n hx hb d_LK_thereWith_26 rfl (lv_at hl 2 rfl) ?_
        replace hf := G_some hf
        obtain ⟨hi2, hf⟩ := hf
        refine r_aLA hx hb hG hP hi2 d_LK_thereWith_27 ?_
        refine g_LA_fields hx hb hts hown hG hP (vin_lt hi2) (hts _ in_112) d_LK_thereWith_28 ?_
        refine lv_iload_n hx hb d_LK_thereWith_31 rfl (lv_at hl 1 rfl) ?_
        refine ki (kn (As := [.long (μ.2 (28 + y2.toNatClampNeg) 0), .int y1]) (rest := []) ⟨hx, hb, hml, hown, hts⟩ (cw_LK_123 hts hG ⟨Nat.le_of_ble_eq_true rfl, Nat.le_of_ble_eq_true rfl⟩) (c_LR_isIn l D adr cA μ ν (μ.2 (28 + y2.toNatClampNeg) 0) y1) hG hP rfl hl.1 (Nat.le_of_ble_eq_true rfl) d_LK_thereWith_32) hS (fun H locs hP hS => ?_)
        refine lv_if_eq (tgt := 40) hx hb d_LK_thereWith_35 (by decide) (fun hc => ?_) (fun hc => ?_)
        · replace hf := if_p hc hf
          refine lv_iinc (v := (y2 + 1)) (lv' := [(2, .int (y2 + 1)), (0, .ref (adr 26)), (1, .int y1)]) hx hb d_LK_thereWith_40 hl (k := 2) rfl rfl (by decide) rfl (fun ls hl => ?_)
          refine lv_goto (tgt := 2) hx hb d_LK_thereWith_43 (by decide) ?_
          exact ih _ hf hP hS (lv_sub hl [1, 2, 0] rfl)
        · replace hf := if_n hc hf
          refine lv_iload_n hx hb d_LK_thereWith_38 rfl (lv_at hl 2 rfl) ?_
          obtain rfl := Option.some.inj hf
          exact hq _ _ _ _ d_LK_thereWith_39 hP hS
set_option maxHeartbeats 4000000 in
set_option maxRecDepth 100000 in
theorem w_LK_thereWith (x1 : Int32)  (C : Cx prog_3_method_14_code 3 "LakeRelief$Lakes" (Option.some Jvm.ClassFile.FieldType.int) p s m args meth c) (hG : Geo D adr cA s) {res : Int32} (hf : f_LK_thereWith μ x1 = some res) (hq : ∀ (pc : Nat) (ls : Array Slot) (H : Heap) (locs : List Loc), decode prog_3_method_14_code pc = .ok (.ireturn, 1) → va_P D cls (wld adr cA μ ν) H → va_S (AA adr) s.heap H locs → W p l e rm_LK_thereWith s m args below meth c H locs 0 0 Q (F0 m pc ls [.int res])) {H : Heap} {locs : List Loc} {ls : Array Slot} (hP : va_P D cls (wld adr cA μ ν) H) (hS : va_S (AA adr) s.heap H locs) (hl : lv_has ls 3 [(0, .ref (adr 26)), (1, .int x1)]) : W p l e rm_LK_thereWith s m args below meth c H locs 0 0 Q (F0 m 0 ls []) := by
  obtain ⟨hx, hb, hml, hown, hts, hr, hlocks⟩ := id C
  unfold f_LK_thereWith at hf
  refine lv_iconst (v := 0) hx hb d_LK_thereWith_0 (by decide) ?_
  refine lv_istore_n (lv' := [(2, .int 0), (0, .ref (adr 26)), (1, .int x1)]) hx hb d_LK_thereWith_1 rfl hl (by decide) rfl (fun ls hl => ?_)
  refine w_LK_thereWith_L2 x1  C hG _ hq ?_ FU _ hf hP hS (lv_sub hl [1, 2, 0] rfl)
  clear hf hP hS hl
  intro u hf H locs ls hP hS hl
  refine lv_bipush (v := (-3)) hx hb d_LK_thereWith_46 (by decide) ?_
  obtain rfl := Option.some.inj hf
  exact hq _ _ _ _ d_LK_thereWith_48 hP hS
theorem c_LK_thereWith (l : Launch) (D : va_G) (adr : Nat → Nat) (cA : Nat → ClassId) (μ ν : Mem) (x1 : Int32)  {res : Int32} (hf : f_LK_thereWith μ x1 = some res) : Met l y_LK_thereWith (Cond.code y_LK_thereWith prog_3_method_14_code 3 (Option.some Jvm.ClassFile.FieldType.int) :: lw_ok) rm_LK_thereWith (va_Pc [.ref (adr 26), .int x1] (Wd D adr cA μ ν)) (QI D adr cA res μ ν) 0 0 (AA adr) :=
  met_of (own := "LakeRelief$Lakes") rfl rfl (Nat.le_of_ble_eq_true rfl) (fun p e s m below meth c C hG hP hS ls hl => w_LK_thereWith x1  C hG hf (fun pc ls H locs hd hP hS => ret_i C.1 C.2.1 C.2.2.2.2.2.1 C.2.2.2.2.2.2 hG hd hP hS) hP hS hl)
end X_LK_thereWith
