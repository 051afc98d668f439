theorem d_LR_init_0 : decode prog_1_method_1_code 0 = .ok (.aload_n 0, 1) := by decide +kernel
theorem d_LR_init_1 : decode prog_1_method_1_code 1 = .ok (.invokespecial 1, 3) := by decide +kernel
theorem d_LR_init_4 : decode prog_1_method_1_code 4 = .ok (.aload_n 0, 1) := by decide +kernel
theorem d_LR_init_5 : decode prog_1_method_1_code 5 = .ok (.bipush 8, 2) := by decide +kernel
theorem d_LR_init_7 : decode prog_1_method_1_code 7 = .ok (.anewarray 9, 3) := by decide +kernel
theorem d_LR_init_10 : decode prog_1_method_1_code 10 = .ok (.putfield 11, 3) := by decide +kernel
theorem d_LR_init_13 : decode prog_1_method_1_code 13 = .ok (.iconst 0, 1) := by decide +kernel
theorem d_LR_init_14 : decode prog_1_method_1_code 14 = .ok (.istore_n 1, 1) := by decide +kernel
theorem d_LR_init_15 : decode prog_1_method_1_code 15 = .ok (.iload_n 1, 1) := by decide +kernel
theorem d_LR_init_16 : decode prog_1_method_1_code 16 = .ok (.bipush 8, 2) := by decide +kernel
theorem d_LR_init_18 : decode prog_1_method_1_code 18 = .ok (.if_icmp .ge 22, 3) := by decide +kernel
theorem d_LR_init_21 : decode prog_1_method_1_code 21 = .ok (.aload_n 0, 1) := by decide +kernel
theorem d_LR_init_22 : decode prog_1_method_1_code 22 = .ok (.getfield 11, 3) := by decide +kernel
theorem d_LR_init_25 : decode prog_1_method_1_code 25 = .ok (.iload_n 1, 1) := by decide +kernel
theorem d_LR_init_26 : decode prog_1_method_1_code 26 = .ok (.new 9, 3) := by decide +kernel
theorem d_LR_init_29 : decode prog_1_method_1_code 29 = .ok (.dup, 1) := by decide +kernel
theorem d_LR_init_30 : decode prog_1_method_1_code 30 = .ok (.invokespecial 15, 3) := by decide +kernel
theorem d_LR_init_33 : decode prog_1_method_1_code 33 = .ok (.aastore, 1) := by decide +kernel
theorem d_LR_init_34 : decode prog_1_method_1_code 34 = .ok (.iinc 1 1, 3) := by decide +kernel
theorem d_LR_init_37 : decode prog_1_method_1_code 37 = .ok (.goto (-22), 3) := by decide +kernel
theorem d_LR_init_40 : decode prog_1_method_1_code 40 = .ok (.aload_n 0, 1) := by decide +kernel
theorem d_LR_init_41 : decode prog_1_method_1_code 41 = .ok (.new 16, 3) := by decide +kernel
theorem d_LR_init_44 : decode prog_1_method_1_code 44 = .ok (.dup, 1) := by decide +kernel
theorem d_LR_init_45 : decode prog_1_method_1_code 45 = .ok (.invokespecial 18, 3) := by decide +kernel
theorem d_LR_init_48 : decode prog_1_method_1_code 48 = .ok (.putfield 19, 3) := by decide +kernel
theorem d_LR_init_51 : decode prog_1_method_1_code 51 = .ok (.aload_n 0, 1) := by decide +kernel
theorem d_LR_init_52 : decode prog_1_method_1_code 52 = .ok (.new 23, 3) := by decide +kernel
theorem d_LR_init_55 : decode prog_1_method_1_code 55 = .ok (.dup, 1) := by decide +kernel
theorem d_LR_init_56 : decode prog_1_method_1_code 56 = .ok (.aload_n 0, 1) := by decide +kernel
theorem d_LR_init_57 : decode prog_1_method_1_code 57 = .ok (.getfield 19, 3) := by decide +kernel
theorem d_LR_init_60 : decode prog_1_method_1_code 60 = .ok (.invokespecial 25, 3) := by decide +kernel
theorem d_LR_init_63 : decode prog_1_method_1_code 63 = .ok (.putfield 28, 3) := by decide +kernel
theorem d_LR_init_66 : decode prog_1_method_1_code 66 = .ok (.aload_n 0, 1) := by decide +kernel
theorem d_LR_init_67 : decode prog_1_method_1_code 67 = .ok (.iconst 0, 1) := by decide +kernel
theorem d_LR_init_68 : decode prog_1_method_1_code 68 = .ok (.putfield 32, 3) := by decide +kernel
theorem d_LR_init_71 : decode prog_1_method_1_code 71 = .ok (.return_, 1) := by decide +kernel
abbrev wRE (cA : Nat → ClassId) (q : Nat) (u : Nat → Nat) : va_W := [(q, .inr (2, [.ref (u 0), .ref (u 1), .ref (u 2), .ref (u 3), .ref (u 4), .ref (u 5), .ref (u 6), .int 1, .int 0, .int 0, .long 0])), (u 0, .inl (cA 0, 64, .inl (fun _ => 0))), (u 1, .inl (cA 0, 64, .inl (fun _ => 0))), (u 2, .inl (cA 0, 64, .inl (fun _ => 0))), (u 3, .inl (cA 0, 64, .inl (fun _ => 0))), (u 4, .inl (cA 0, 64, .inl (fun _ => 0))), (u 5, .inl (cA 0, 256, .inl (fun _ => 0))), (u 6, .inl (cA 0, 64, .inl (fun _ => 0)))]
abbrev wLK (cA : Nat → ClassId) (hr q : Nat) (u : Nat × (Nat → Nat) × (Nat → Option Nat)) : va_W := [(q, eLK u.1 hr), (u.1, eAr (cA 4) 35 u.2.2)] ++ pool 35 u.2.1 eLA
abbrev eLR (v1 v2 v3 : Value) : va_E := .inr (4, [v1, v2, v3, .int 0])
section CT6
variable {p : Program} {l : Launch} {e : Env} {s : State} {m : MethodId} {args : Array Value} {below : List Frame} {meth : Method} {c : Code} {Q : State → Prop} {D : va_G} {cA : Nat → ClassId} {A : Nat → Prop}
def rm_LR_init : Room := { frames := rm_LK_init.frames + 1, cells := 1 + 16 + 8 + 37, slots := 8 + 8 * 15 + (11 + 640) + (6 + 315), locals := 8 + (3 + 11) + rm_LK_init.locals }
set_option maxHeartbeats 4000000 in
set_option maxRecDepth 100000 in
theorem w_LR_init_L15 (C : Cx prog_1_method_1_code 2 "LakeRelief" none p s m args meth c) (hG : GK D cA s) (hA : ∀ q, s.heap.size ≤ q → A q) (h0 h1 : Nat)
    (hE : ∀ (a b : Nat → Nat) (f : Nat → Option Nat) (H : Heap) (locs : List Loc) (ls : Array Slot), (∀ j, j < 8 → f j = some (a j)) → va_P D cls ([(h0, eLR (.ref h1) .null .null), (h1, eAr (cA 3) 8 f)] ++ pool2 cA 8 a b) H → va_D A ([(h0, eLR (.ref h1) .null .null), (h1, eAr (cA 3) 8 f)] ++ pool2 cA 8 a b) → va_S A s.heap H locs → lv_has ls 2 [(0, .ref h0)] → W p l e rm_LR_init s m args below meth c H locs 17 128 Q (F0 m 40 ls [])) :
    ∀ (n k : Nat), k + n = 8 → ∀ (a b : Nat → Nat) (f : Nat → Option Nat) (H : Heap) (locs : List Loc) (ls : Array Slot), (∀ j, j < k → f j = some (a j)) → va_P D cls ([(h0, eLR (.ref h1) .null .null), (h1, eAr (cA 3) 8 f)] ++ pool2 cA k a b) H → va_D A ([(h0, eLR (.ref h1) .null .null), (h1, eAr (cA 3) 8 f)] ++ pool2 cA k a b) → va_S A s.heap H locs → lv_has ls 2 [(1, .int (nI k)), (0, .ref h0)] → W p l e rm_LR_init s m args below meth c H locs (1 + 2 * k) (8 + 15 * k) Q (F0 m 15 ls []) := by
  obtain ⟨hx, hb, hml, hown, hts, hrt, hlocks⟩ := id C
  intro n
  induction n with
  | zero =>
    intro k hk a b f H locs ls hf hP hD hS hl
    have hk : k = 8 := by omega
    subst hk
    refine lv_iload_n hx hb d_LR_init_15 rfl (lv_at hl 0 rfl) ?_
    refine lv_bipush (v := 8) hx hb d_LR_init_16 (by decide) ?_
    refine lv_icmp_ge (tgt := 40) hx hb d_LR_init_18 (by decide) (fun hc => ?_) (fun hc => ?_)
    · exact hE a b f H locs ls hf hP hD hS (lv_sub hl [1] rfl)
    · exact absurd (by decide) hc
  | succ n ih =>
    intro k hk a b f H locs ls hf hP hD hS hl
    have hk8 : k < 8 := by omega
    refine lv_iload_n hx hb d_LR_init_15 rfl (lv_at hl 0 rfl) ?_
    refine lv_bipush (v := 8) hx hb d_LR_init_16 (by decide) ?_
    refine lv_icmp_ge (tgt := 40) hx hb d_LR_init_18 (by decide) (fun hc => ?_) (fun hc => ?_)
    · exact absurd hc (nI_ge (a := k) (b := 8) hk8 (by decide))
    · refine lv_aload_n hx hb d_LR_init_21 rfl (lv_at hl 1 rfl) ?_
      refine va_get (D := D) (ci := 4) (v := .ref h1) (C := R_LR) (T := T_LR) (N := 4) hx hb hts i_LR hown hG.1 hP 0 rfl rfl 0 (by decide) (hts _ in_175) (fun _ h => h) rfl d_LR_init_22 ?_
      refine lv_iload_n hx hb d_LR_init_25 rfl (lv_at hl 0 rfl) ?_
      refine va_new (ci := 3) (fs := [.null, .int 0, .int 0]) (C := R_ST) (T := T_ST) (N := 3) hx hb hts i_ST t_ST t_ST_ok hown (hts _ in_18) (hts _ in_20) (hts _ in_2) hG.1 hP hD hS hA rfl (fun j hj => by rcases (show j = 0 ∨ j = 1 ∨ j = 2 by omega) with rfl | rfl | rfl <;> rfl) (by show 1 + 2 * k + 1 ≤ 62; omega) (by show 8 + 15 * k + 3 ≤ 1100; omega) d_LR_init_26 (fun q H hP hD hS => ?_)
      refine lv_dup hx hb d_LR_init_29 rfl ?_
      refine kc (wr := [(h0, eLR (.ref h1) .null .null), (h1, eAr (cA 3) 8 f)] ++ pool2 cA k a b) (As := []) (rest := [.ref q, .int (nI k), .ref h1]) ⟨hx, hb, hml, hown, hts⟩ (cw_LR_15 hts ⟨Nat.le_of_ble_eq_true rfl, Nat.le_of_ble_eq_true rfl⟩) (c_ST_init l D cA q H.size) hG hP hD hS hA rfl hl.1 (Nat.le_of_ble_eq_true rfl) ⟨by show 1 + 2 * k + 1 + 1 ≤ 62; omega, by show 8 + 15 * k + 3 + 12 ≤ 1100; omega⟩ d_LR_init_30 (fun u H locs _ hP hD hS => ?_)
      refine va_astq hx hb hG.1 hP hD hS 1 3 (2 + 2 * k) 3 (n := 8) (f := f) rfl rfl (at_last (by rw [List.length_append, pool2_len]; rfl) _) rfl (vp_in_nI hk8 (by decide)) d_LR_init_33 (fun H locs hP hD hS => ?_)
      rw [nI_clamp (by omega)] at hP hD
      have hP : va_P D cls ([(h0, eLR (.ref h1) .null .null), (h1, eAr (cA 3) 8 (va_up f k (some q)))] ++ (pool2 cA k a b ++ [(q, eST u), (u, ePL cA)])) H := hP
      have hD : va_D A ([(h0, eLR (.ref h1) .null .null), (h1, eAr (cA 3) 8 (va_up f k (some q)))] ++ (pool2 cA k a b ++ [(q, eST u), (u, ePL cA)])) := hD
      rw [pool2_succ] at hP hD
      refine lv_iinc (v := nI (k + 1)) (lv' := [(1, .int (nI (k + 1))), (0, .ref h0)]) hx hb d_LR_init_34 hl (k := 0) rfl (nI_1 k) (by decide) rfl (fun ls hl => ?_)
      refine lv_goto (tgt := 15) hx hb d_LR_init_37 (by decide) ?_
      refine W.cs (cells' := 1 + 2 * (k + 1)) (slots' := 8 + 15 * (k + 1)) (by show 1 + 2 * k + 1 + 1 = _; omega) (by show 8 + 15 * k + 3 + 12 = _; omega) ?_
      refine ih (k + 1) (by omega) (va_up a k q) (va_up b k u) (va_up f k (some q)) H locs ls (fun j hj => ?_) hP hD hS hl
      by_cases h : j = k
      · subst h; rw [va_up_self, va_up_self]
      · rw [va_up_ne _ _ h, va_up_ne _ _ h]; exact hf j (by omega)
end CT6
section CT7
set_option maxHeartbeats 4000000 in
set_option maxRecDepth 100000 in
abbrev uLR : Type := Nat × (Nat → Option Nat) × (Nat → Nat) × (Nat → Nat) × Nat × (Nat → Nat) × Nat × (Nat × (Nat → Nat) × (Nat → Option Nat))
abbrev wLR (cA : Nat → ClassId) (h0 : Nat) (u : uLR) : va_W := (([(h0, eLR (.ref u.1) (.ref u.2.2.2.2.1) (.ref u.2.2.2.2.2.2.1)), (u.1, eAr (cA 3) 8 u.2.1)] ++ pool2 cA 8 u.2.2.1 u.2.2.2.1) ++ wRE cA u.2.2.2.2.1 u.2.2.2.2.2.1) ++ wLK cA u.2.2.2.2.1 u.2.2.2.2.2.2.1 u.2.2.2.2.2.2.2
set_option maxHeartbeats 4000000 in
set_option maxRecDepth 100000 in
theorem c_LR_init (l : Launch) (D : va_G) (cA : Nat → ClassId) (h0 sz : Nat) : Met l y_LR_init (Cond.code y_LR_init prog_1_method_1_code 2 none :: lw_ok) rm_LR_init (va_Pc [.ref h0] (SP D cA [(h0, eLR0)] sz)) (QN D [(h0, eLR0)] sz (fun u : uLR => wLR cA h0 u) (fun u => (∀ j, j < 8 → u.2.1 j = some (u.2.2.1 j)) ∧ ∀ j, j < 35 → u.2.2.2.2.2.2.2.2.2 j = some (u.2.2.2.2.2.2.2.2.1 j))) 62 1100 (va_A [(h0, eLR0)] sz) := by
  refine metN_of (own := "LakeRelief") rfl rfl (Nat.le_of_ble_eq_true rfl) (fun p e s m below meth c C hin hG hA hP hD hS ls hl => ?_)
  obtain ⟨hx, hb, hml, hown, hts, hrt, hlocks⟩ := id C
  generalize hAe : va_A [(h0, eLR0)] s.heap.size = A at hA hD hS ⊢
  refine lv_aload_n hx hb d_LR_init_0 rfl (lv_at hl 0 rfl) ?_
  refine W.objInit hx hb hown (hts _ in_15) (hts _ in_16) (hts _ in_17) rfl (by rw [hml]; exact hl.1) rfl d_LR_init_1 (Nat.le_of_ble_eq_true rfl) (Nat.le_of_ble_eq_true rfl) ?_
  refine W.eq (g2 := F0 m 4 ls []) rfl ?_
  refine lv_aload_n hx hb d_LR_init_4 rfl (lv_at hl 0 rfl) ?_
  refine lv_bipush (v := 8) hx hb d_LR_init_5 (by decide) ?_
  refine nw_ST (N' := 8) hx hb hown (hts _ in_18) hG hP hD hS hA (by decide) (by decide) (by decide) (by decide) (by decide) d_LR_init_7 (fun h1 H hP hD hS => ?_)
  refine va_putF (D := D) (ci := 4) (v := .ref h1) (ty := (.array (.object "LakeRelief$Strip"))) (C := R_LR) (T := T_LR) (N := 4) hx hb hts i_LR t_LR t_LR_ok n_LR hown hG.1 hP hD hS 0 rfl rfl 0 (by decide) (hts _ in_175) (fun _ h => h) rfl hin rfl (by decide +kernel) rfl rfl (Nat.le_of_ble_eq_true rfl) d_LR_init_10 (fun H locs hP hD hS => ?_)
  have hP : va_P D cls ([(h0, eLR (.ref h1) .null .null), (h1, eAr (cA 3) 8 (fun _ => none))] ++ pool2 cA 0 (fun _ => 0) (fun _ => 0)) H := hP
  have hD : va_D A ([(h0, eLR (.ref h1) .null .null), (h1, eAr (cA 3) 8 (fun _ => none))] ++ pool2 cA 0 (fun _ => 0) (fun _ => 0)) := hD
  refine lv_iconst (v := 0) hx hb d_LR_init_13 (by decide) ?_
  refine lv_istore_n (lv' := [(1, .int 0), (0, .ref h0)]) hx hb d_LR_init_14 rfl hl (by decide) rfl (fun ls hl => ?_)
  refine w_LR_init_L15 C hG hA h0 h1 ?_ 8 0 rfl (fun _ => 0) (fun _ => 0) (fun _ => none) H locs ls (fun j hj => absurd hj (Nat.not_lt_zero j)) hP hD hS hl
  clear hP hD hS hl
  intro a b f H locs ls hf hP hD hS hl
  refine lv_aload_n hx hb d_LR_init_40 rfl (lv_at hl 0 rfl) ?_
  refine va_new (ci := 2) (fs := [.null, .null, .null, .null, .null, .null, .null, .int 0, .int 0, .int 0, .long 0]) (C := R_RE) (T := T_RE) (N := 11) hx hb hts i_RE t_RE t_RE_ok hown (hts _ in_38) (hts _ in_39) (hts _ in_3) hG.1 hP hD hS hA rfl (fun j hj => by rcases (show j = 0 ∨ j = 1 ∨ j = 2 ∨ j = 3 ∨ j = 4 ∨ j = 5 ∨ j = 6 ∨ j = 7 ∨ j = 8 ∨ j = 9 ∨ j = 10 by omega) with rfl | rfl | rfl | rfl | rfl | rfl | rfl | rfl | rfl | rfl | rfl <;> rfl) (by decide) (by decide) d_LR_init_41 (fun qr H hP hD hS => ?_)
  refine lv_dup hx hb d_LR_init_44 rfl ?_
  refine kc (wr := [(h0, eLR (.ref h1) .null .null), (h1, eAr (cA 3) 8 f)] ++ pool2 cA 8 a b) (As := []) (rest := [.ref qr, .ref h0]) ⟨hx, hb, hml, hown, hts⟩ (cw_LR_18 hts ⟨Nat.le_of_ble_eq_true rfl, Nat.le_of_ble_eq_true rfl⟩) (c_RE_init l D cA qr H.size) hG hP hD hS hA rfl hl.1 (Nat.le_of_ble_eq_true rfl) ⟨by decide, by decide⟩ d_LR_init_45 (fun ur H locs _ hP hD hS => ?_)
  refine va_putF (D := D) (ci := 4) (v := .ref qr) (ty := (.object "LakeRelief$Relief")) (C := R_LR) (T := T_LR) (N := 4) hx hb hts i_LR t_LR t_LR_ok n_LR hown hG.1 hP hD hS 0 rfl rfl 1 (by decide) (hts _ in_176) (fun _ h => h) rfl hin rfl (by decide +kernel) rfl rfl (Nat.le_of_ble_eq_true rfl) d_LR_init_48 (fun H locs hP hD hS => ?_)
  have hP : va_P D cls (([(h0, eLR (.ref h1) (.ref qr) .null), (h1, eAr (cA 3) 8 f)] ++ pool2 cA 8 a b) ++ wRE cA qr ur) H := hP
  have hD : va_D A (([(h0, eLR (.ref h1) (.ref qr) .null), (h1, eAr (cA 3) 8 f)] ++ pool2 cA 8 a b) ++ wRE cA qr ur) := hD
  refine lv_aload_n hx hb d_LR_init_51 rfl (lv_at hl 0 rfl) ?_
  refine va_new (ci := 1) (fs := [.null, .int 0, .long 0, .long 0, .null, .long 0]) (C := R_LK) (T := T_LK) (N := 6) hx hb hts i_LK t_LK t_LK_ok hown (hts _ in_88) (hts _ in_89) (hts _ in_4) hG.1 hP hD hS hA rfl (fun j hj => by rcases (show j = 0 ∨ j = 1 ∨ j = 2 ∨ j = 3 ∨ j = 4 ∨ j = 5 by omega) with rfl | rfl | rfl | rfl | rfl | rfl <;> rfl) (by decide) (by decide) d_LR_init_52 (fun ql H hP hD hS => ?_)
  refine lv_dup hx hb d_LR_init_55 rfl ?_
  refine lv_aload_n hx hb d_LR_init_56 rfl (lv_at hl 0 rfl) ?_
  refine va_get (D := D) (ci := 4) (v := .ref qr) (C := R_LR) (T := T_LR) (N := 4) hx hb hts i_LR hown hG.1 hP 0 rfl rfl 1 (by decide) (hts _ in_176) (fun _ h => h) rfl d_LR_init_57 ?_
  refine kc (wr := ([(h0, eLR (.ref h1) (.ref qr) .null), (h1, eAr (cA 3) 8 f)] ++ pool2 cA 8 a b) ++ wRE cA qr ur) (As := [.ref qr]) (rest := [.ref ql, .ref h0]) ⟨hx, hb, hml, hown, hts⟩ (cw_LR_25 hts ⟨Nat.le_of_ble_eq_true rfl, Nat.le_of_ble_eq_true rfl⟩) (c_LK_init l D cA ql qr H.size) hG hP hD hS hA rfl hl.1 (Nat.le_of_ble_eq_true rfl) ⟨by decide, by decide⟩ d_LR_init_60 (fun ul H locs hu hP hD hS => ?_)
  refine va_putF (D := D) (ci := 4) (v := .ref ql) (ty := (.object "LakeRelief$Lakes")) (C := R_LR) (T := T_LR) (N := 4) hx hb hts i_LR t_LR t_LR_ok n_LR hown hG.1 hP hD hS 0 rfl rfl 2 (by decide) (hts _ in_177) (fun _ h => h) rfl hin rfl (by decide +kernel) rfl rfl (Nat.le_of_ble_eq_true rfl) d_LR_init_63 (fun H locs hP hD hS => ?_)
  refine lv_aload_n hx hb d_LR_init_66 rfl (lv_at hl 0 rfl) ?_
  refine lv_iconst (v := 0) hx hb d_LR_init_67 (by decide) ?_
  refine va_put (D := D) (ci := 4) (v := .int 0) (ty := .boolean) (C := R_LR) (T := T_LR) (N := 4) hx hb hts i_LR t_LR t_LR_ok n_LR hown hG.1 hP hD hS 0 rfl rfl 3 (by decide) (hts _ in_178) (fun _ h => h) rfl (by decide +kernel) rfl rfl (Nat.le_of_ble_eq_true rfl) d_LR_init_68 (fun H locs hP hD hS => ?_)
  subst hAe
  exact ret_n (u := ((h1, f, a, b, qr, ur, ql, ul) : uLR)) hx hb hrt hlocks ⟨hf, hu⟩ hP hD hS d_LR_init_71
end CT7
