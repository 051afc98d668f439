abbrev eLA0 : va_E := .inr (0, [.long 0, .int 0, .int 0, .int 0, .int 0, .int 0, .int 0, .int 0])
abbrev eLA : va_E := .inr (0, [.long 0, .int (-3), .int (-3), .int (-3), .int (-3), .int 0, .int 0, .int 0])
abbrev eLK0 : va_E := .inr (1, [.null, .int 0, .long 0, .long 0, .null, .long 0])
abbrev eST0 : va_E := .inr (3, [.null, .int 0, .int 0])
abbrev eRE0 : va_E := .inr (2, [.null, .null, .null, .null, .null, .null, .null, .int 0, .int 0, .int 0, .long 0])
abbrev eLR0 : va_E := .inr (4, [.null, .null, .null, .int 0])
abbrev eST (b : Nat) : va_E := .inr (3, [.ref b, .int (-1), .int 0])
abbrev ePL (cA : Nat → ClassId) : va_E := .inl (cA 0, 12, .inl (fun _ => 0))
abbrev eAr (c : ClassId) (n : Nat) (f : Nat → Option Nat) : va_E := .inl (c, n, .inr (.inr (.inr (.inr f))))
abbrev eLK (h1 hr : Nat) : va_E := .inr (1, [.ref h1, .int 0, .long 0, .long 0, .ref hr, .long 0])
def pool (k : Nat) (a : Nat → Nat) (x : va_E) : va_W := (List.range k).map (fun j => (a j, x))
theorem pool_succ {k : Nat} {a : Nat → Nat} {x : va_E} {q : Nat} : pool k a x ++ [(q, x)] = pool (k + 1) (va_up a k q) x := by
  unfold pool
  rw [List.range_succ, List.map_append, List.map_cons, List.map_nil, va_up_self]
  congr 1
  apply List.map_congr_left
  intro j hj
  have := List.mem_range.mp hj
  rw [va_up_ne _ _ (by omega)]
theorem pool_len {k : Nat} {a : Nat → Nat} {x : va_E} : (pool k a x).length = k := by unfold pool; rw [List.length_map, List.length_range]
def pool2 (cA : Nat → ClassId) (k : Nat) (a b : Nat → Nat) : va_W := (List.range k).flatMap (fun j => [(a j, eST (b j)), (b j, ePL cA)])
theorem pool2_succ {cA : Nat → ClassId} {k : Nat} {a b : Nat → Nat} {q u : Nat} : pool2 cA k a b ++ [(q, eST u), (u, ePL cA)] = pool2 cA (k + 1) (va_up a k q) (va_up b k u) := by
  unfold pool2
  rw [List.range_succ, List.flatMap_append, List.flatMap_cons, List.flatMap_nil, va_up_self, va_up_self, List.append_nil]
  congr 1
  rw [List.flatMap_def, List.flatMap_def]
  congr 1
  apply List.map_congr_left
  intro j hj
  have := List.mem_range.mp hj
  rw [va_up_ne _ _ (by omega), va_up_ne _ _ (by omega)]
theorem pool2_len {cA : Nat → ClassId} {a b : Nat → Nat} : ∀ k : Nat, (pool2 cA k a b).length = 2 * k
  | 0 => rfl
  | k + 1 => by
    have ih := pool2_len (cA := cA) (a := a) (b := b) k
    unfold pool2 at ih ⊢
    rw [List.range_succ, List.flatMap_append, List.length_append, ih]
    simp
    omega
theorem at_last {a : va_W} {n : Nat} {x : Nat × va_E} (h : a.length = n) (b : va_W) : (a ++ x :: b)[n]? = some x := by
  subst h
  rw [List.getElem?_append_right (Nat.le_refl _), Nat.sub_self]
  rfl
section CW2
variable {R : Room} {s : State} {args : Array Value}
theorem cw_LR_15 (hts : ∀ w ∈ lw_ok, w.before args s = true) (hR : rm_ST_init.frames + 1 ≤ R.frames ∧ 8 + (1 + 11) + rm_ST_init.locals ≤ R.locals) : CallB R s args "LakeRelief" 15 y_ST_init prog_5_method_1_code 1 none (Cond.code y_ST_init prog_5_method_1_code 1 none :: lw_ok) rm_ST_init rm_ST_init.cells rm_ST_init.slots 0 ∧ y_ST_init.name = "<init>" ∧ (Cond.instanceMethod y_ST_init).before args s = true := ⟨(callB_of 0 hts (ok_in in_23) rfl rfl rfl (hts _ in_2) (hts _ in_21) (by decide +kernel) hR), rfl, hts _ in_22⟩
theorem cw_LR_18 (hts : ∀ w ∈ lw_ok, w.before args s = true) (hR : rm_RE_init.frames + 1 ≤ R.frames ∧ 8 + (1 + 11) + rm_RE_init.locals ≤ R.locals) : CallB R s args "LakeRelief" 18 y_RE_init prog_4_method_1_code 1 none (Cond.code y_RE_init prog_4_method_1_code 1 none :: lw_ok) rm_RE_init rm_RE_init.cells rm_RE_init.slots 0 ∧ y_RE_init.name = "<init>" ∧ (Cond.instanceMethod y_RE_init).before args s = true := ⟨(callB_of 0 hts (ok_in in_42) rfl rfl rfl (hts _ in_3) (hts _ in_40) (by decide +kernel) hR), rfl, hts _ in_41⟩
theorem cw_LK_21 (hts : ∀ w ∈ lw_ok, w.before args s = true) (hR : rm_LA_init.frames + 1 ≤ R.frames ∧ 8 + (1 + 11) + rm_LA_init.locals ≤ R.locals) : CallB R s args "LakeRelief$Lakes" 21 y_LA_init prog_2_method_1_code 1 none (Cond.code y_LA_init prog_2_method_1_code 1 none :: lw_ok) rm_LA_init rm_LA_init.cells rm_LA_init.slots 0 ∧ y_LA_init.name = "<init>" ∧ (Cond.instanceMethod y_LA_init).before args s = true := ⟨(callB_of 0 hts (ok_in in_99) rfl rfl rfl (hts _ in_5) (hts _ in_97) (by decide +kernel) hR), rfl, hts _ in_98⟩
end CW2
theorem d_LK_init_0 : decode prog_3_method_1_code 0 = .ok (.aload_n 0, 1) := by decide +kernel
theorem d_LK_init_1 : decode prog_3_method_1_code 1 = .ok (.invokespecial 3, 3) := by decide +kernel
theorem d_LK_init_4 : decode prog_3_method_1_code 4 = .ok (.aload_n 0, 1) := by decide +kernel
theorem d_LK_init_5 : decode prog_3_method_1_code 5 = .ok (.aload_n 1, 1) := by decide +kernel
theorem d_LK_init_6 : decode prog_3_method_1_code 6 = .ok (.putfield 9, 3) := by decide +kernel
theorem d_LK_init_9 : decode prog_3_method_1_code 9 = .ok (.aload_n 0, 1) := by decide +kernel
theorem d_LK_init_10 : decode prog_3_method_1_code 10 = .ok (.bipush 35, 2) := by decide +kernel
theorem d_LK_init_12 : decode prog_3_method_1_code 12 = .ok (.anewarray 15, 3) := by decide +kernel
theorem d_LK_init_15 : decode prog_3_method_1_code 15 = .ok (.putfield 17, 3) := by decide +kernel
theorem d_LK_init_18 : decode prog_3_method_1_code 18 = .ok (.iconst 0, 1) := by decide +kernel
theorem d_LK_init_19 : decode prog_3_method_1_code 19 = .ok (.istore_n 2, 1) := by decide +kernel
theorem d_LK_init_20 : decode prog_3_method_1_code 20 = .ok (.iload_n 2, 1) := by decide +kernel
theorem d_LK_init_21 : decode prog_3_method_1_code 21 = .ok (.bipush 35, 2) := by decide +kernel
theorem d_LK_init_23 : decode prog_3_method_1_code 23 = .ok (.if_icmp .ge 22, 3) := by decide +kernel
theorem d_LK_init_26 : decode prog_3_method_1_code 26 = .ok (.aload_n 0, 1) := by decide +kernel
theorem d_LK_init_27 : decode prog_3_method_1_code 27 = .ok (.getfield 17, 3) := by decide +kernel
theorem d_LK_init_30 : decode prog_3_method_1_code 30 = .ok (.iload_n 2, 1) := by decide +kernel
theorem d_LK_init_31 : decode prog_3_method_1_code 31 = .ok (.new 15, 3) := by decide +kernel
theorem d_LK_init_34 : decode prog_3_method_1_code 34 = .ok (.dup, 1) := by decide +kernel
theorem d_LK_init_35 : decode prog_3_method_1_code 35 = .ok (.invokespecial 21, 3) := by decide +kernel
theorem d_LK_init_38 : decode prog_3_method_1_code 38 = .ok (.aastore, 1) := by decide +kernel
theorem d_LK_init_39 : decode prog_3_method_1_code 39 = .ok (.iinc 2 1, 3) := by decide +kernel
theorem d_LK_init_42 : decode prog_3_method_1_code 42 = .ok (.goto (-22), 3) := by decide +kernel
theorem d_LK_init_45 : decode prog_3_method_1_code 45 = .ok (.aload_n 0, 1) := by decide +kernel
theorem d_LK_init_46 : decode prog_3_method_1_code 46 = .ok (.iconst 0, 1) := by decide +kernel
theorem d_LK_init_47 : decode prog_3_method_1_code 47 = .ok (.putfield 22, 3) := by decide +kernel
theorem d_LK_init_50 : decode prog_3_method_1_code 50 = .ok (.aload_n 0, 1) := by decide +kernel
theorem d_LK_init_51 : decode prog_3_method_1_code 51 = .ok (.lconst 0, 1) := by decide +kernel
theorem d_LK_init_52 : decode prog_3_method_1_code 52 = .ok (.putfield 26, 3) := by decide +kernel
theorem d_LK_init_55 : decode prog_3_method_1_code 55 = .ok (.aload_n 0, 1) := by decide +kernel
theorem d_LK_init_56 : decode prog_3_method_1_code 56 = .ok (.lconst 0, 1) := by decide +kernel
theorem d_LK_init_57 : decode prog_3_method_1_code 57 = .ok (.putfield 30, 3) := by decide +kernel
theorem d_LK_init_60 : decode prog_3_method_1_code 60 = .ok (.aload_n 0, 1) := by decide +kernel
theorem d_LK_init_61 : decode prog_3_method_1_code 61 = .ok (.lconst 0, 1) := by decide +kernel
theorem d_LK_init_62 : decode prog_3_method_1_code 62 = .ok (.putfield 33, 3) := by decide +kernel
theorem d_LK_init_65 : decode prog_3_method_1_code 65 = .ok (.return_, 1) := by decide +kernel
section CT4
variable {p : Program} {l : Launch} {e : Env} {s : State} {m : MethodId} {args : Array Value} {below : List Frame} {meth : Method} {c : Code} {Q : State → Prop} {D : va_G} {cA : Nat → ClassId} {A : Nat → Prop}
def rm_LK_init : Room := { frames := rm_LA_init.frames + 1, cells := 36, slots := 315, locals := 8 + (1 + 11) + rm_LA_init.locals }
set_option maxHeartbeats 4000000 in
set_option maxRecDepth 100000 in
theorem w_LK_init_L20 (C : Cx prog_3_method_1_code 3 "LakeRelief$Lakes" none p s m args meth c) (hG : GK D cA s) (hA : ∀ q, s.heap.size ≤ q → A q) (h0 h1 hr : Nat)
    (hE : ∀ (a : Nat → Nat) (f : Nat → Option Nat) (H : Heap) (locs : List Loc) (ls : Array Slot), (∀ j, j < 35 → f j = some (a j)) → va_P D cls ([(h0, eLK h1 hr), (h1, eAr (cA 4) 35 f)] ++ pool 35 a eLA) H → va_D A ([(h0, eLK h1 hr), (h1, eAr (cA 4) 35 f)] ++ pool 35 a eLA) → va_S A s.heap H locs → lv_has ls 3 [(0, .ref h0)] → W p l e rm_LK_init s m args below meth c H locs 36 315 Q (F0 m 45 ls [])) :
    ∀ (n k : Nat), k + n = 35 → ∀ (a : Nat → Nat) (f : Nat → Option Nat) (H : Heap) (locs : List Loc) (ls : Array Slot), (∀ j, j < k → f j = some (a j)) → va_P D cls ([(h0, eLK h1 hr), (h1, eAr (cA 4) 35 f)] ++ pool k a eLA) H → va_D A ([(h0, eLK h1 hr), (h1, eAr (cA 4) 35 f)] ++ pool k a eLA) → va_S A s.heap H locs → lv_has ls 3 [(2, .int (nI k)), (0, .ref h0)] → W p l e rm_LK_init s m args below meth c H locs (1 + k) (35 + 8 * k) Q (F0 m 20 ls []) := by
  obtain ⟨hx, hb, hml, hown, hts, hrt, hlocks⟩ := id C
  intro n
  induction n with
  | zero =>
    intro k hk a f H locs ls hf hP hD hS hl
    have hk : k = 35 := by omega
    subst hk
    refine lv_iload_n hx hb d_LK_init_20 rfl (lv_at hl 0 rfl) ?_
    refine lv_bipush (v := 35) hx hb d_LK_init_21 (by decide) ?_
    refine lv_icmp_ge (tgt := 45) hx hb d_LK_init_23 (by decide) (fun hc => ?_) (fun hc => ?_)
    · exact hE a f H locs ls hf hP hD hS (lv_sub hl [1] rfl)
    · exact absurd (by decide) hc
  | succ n ih =>
    intro k hk a f H locs ls hf hP hD hS hl
    have hk35 : k < 35 := by omega
    refine lv_iload_n hx hb d_LK_init_20 rfl (lv_at hl 0 rfl) ?_
    refine lv_bipush (v := 35) hx hb d_LK_init_21 (by decide) ?_
    refine lv_icmp_ge (tgt := 45) hx hb d_LK_init_23 (by decide) (fun hc => ?_) (fun hc => ?_)
    · exact absurd hc (nI_ge (a := k) (b := 35) hk35 (by decide))
    · refine lv_aload_n hx hb d_LK_init_26 rfl (lv_at hl 1 rfl) ?_
      refine va_get (D := D) (ci := 1) (v := .ref h1) (C := R_LK) (T := T_LK) (N := 6) hx hb hts i_LK hown hG.1 hP 0 rfl rfl 0 (by decide) (hts _ in_152) (fun _ h => h) rfl d_LK_init_27 ?_
      refine lv_iload_n hx hb d_LK_init_30 rfl (lv_at hl 0 rfl) ?_
      refine va_new (ci := 0) (fs := [.long 0, .int 0, .int 0, .int 0, .int 0, .int 0, .int 0, .int 0]) (C := R_LA) (T := T_LA) (N := 8) hx hb hts i_LA t_LA t_LA_ok hown (hts _ in_94) (hts _ in_96) (hts _ in_5) hG.1 hP hD hS hA rfl (fun j hj => by rcases (show j = 0 ∨ j = 1 ∨ j = 2 ∨ j = 3 ∨ j = 4 ∨ j = 5 ∨ j = 6 ∨ j = 7 by omega) with rfl | rfl | rfl | rfl | rfl | rfl | rfl | rfl <;> rfl) (by show 1 + k + 1 ≤ 36; omega) (by show 35 + 8 * k + 8 ≤ 315; omega) d_LK_init_31 (fun q H hP hD hS => ?_)
      refine lv_dup hx hb d_LK_init_34 rfl ?_
      refine kc (wr := [(h0, eLK h1 hr), (h1, eAr (cA 4) 35 f)] ++ pool k a eLA) (As := []) (rest := [.ref q, .int (nI k), .ref h1]) ⟨hx, hb, hml, hown, hts⟩ (cw_LK_21 hts ⟨Nat.le_of_ble_eq_true rfl, Nat.le_of_ble_eq_true rfl⟩) (c_LA_init l D cA q H.size) hG hP hD hS hA rfl hl.1 (Nat.le_of_ble_eq_true rfl) ⟨by show 1 + k + 1 + 0 ≤ 36; omega, by show 35 + 8 * k + 8 + 0 ≤ 315; omega⟩ d_LK_init_35 (fun u H locs _ hP hD hS => ?_)
      refine va_astq hx hb hG.1 hP hD hS 1 4 (2 + k) 0 (n := 35) (f := f) rfl rfl (at_last (by rw [List.length_append, pool_len]; rfl) []) rfl (vp_in_nI hk35 (by decide)) d_LK_init_38 (fun H locs hP hD hS => ?_)
      rw [nI_clamp (by omega)] at hP hD
      have hP : va_P D cls ([(h0, eLK h1 hr), (h1, eAr (cA 4) 35 (va_up f k (some q)))] ++ (pool k a eLA ++ [(q, eLA)])) H := hP
      have hD : va_D A ([(h0, eLK h1 hr), (h1, eAr (cA 4) 35 (va_up f k (some q)))] ++ (pool k a eLA ++ [(q, eLA)])) := hD
      rw [pool_succ] at hP hD
      refine lv_iinc (v := nI (k + 1)) (lv' := [(2, .int (nI (k + 1))), (0, .ref h0)]) hx hb d_LK_init_39 hl (k := 0) rfl (nI_1 k) (by decide) rfl (fun ls hl => ?_)
      refine lv_goto (tgt := 20) hx hb d_LK_init_42 (by decide) ?_
      refine W.cs (cells' := 1 + (k + 1)) (slots' := 35 + 8 * (k + 1)) (by show 1 + k + 1 + 0 = _; omega) (by show 35 + 8 * k + 8 + 0 = _; omega) ?_
      refine ih (k + 1) (by omega) (va_up a k q) (va_up f k (some q)) H locs ls (fun j hj => ?_) hP hD hS hl
      by_cases h : j = k
      · subst h; rw [va_up_self, va_up_self]
      · rw [va_up_ne _ _ h, va_up_ne _ _ h]; exact hf j (by omega)
end CT4
section CT5
set_option maxHeartbeats 4000000 in
set_option maxRecDepth 100000 in
theorem c_LK_init (l : Launch) (D : va_G) (cA : Nat → ClassId) (h0 hr sz : Nat) : Met l y_LK_init (Cond.code y_LK_init prog_3_method_1_code 3 none :: lw_ok) rm_LK_init (va_Pc [.ref h0, .ref hr] (SP D cA [(h0, eLK0)] sz)) (QN D [(h0, eLK0)] sz (fun u : Nat × (Nat → Nat) × (Nat → Option Nat) => [(h0, eLK u.1 hr), (u.1, eAr (cA 4) 35 u.2.2)] ++ pool 35 u.2.1 eLA) (fun u => ∀ j, j < 35 → u.2.2 j = some (u.2.1 j))) 36 315 (va_A [(h0, eLK0)] sz) := by
  refine metN_of (own := "LakeRelief$Lakes") rfl rfl (Nat.le_of_ble_eq_true rfl) (fun p e s m below meth c C hin hG hA hP hD hS ls hl => ?_)
  obtain ⟨hx, hb, hml, hown, hts, hrt, hlocks⟩ := id C
  generalize hAe : va_A [(h0, eLK0)] s.heap.size = A at hA hD hS ⊢
  refine lv_aload_n hx hb d_LK_init_0 rfl (lv_at hl 0 rfl) ?_
  refine W.objInit hx hb hown (hts _ in_93) (hts _ in_16) (hts _ in_17) rfl (by rw [hml]; exact hl.1) rfl d_LK_init_1 (Nat.le_of_ble_eq_true rfl) (Nat.le_of_ble_eq_true rfl) ?_
  refine W.eq (g2 := F0 m 4 ls []) rfl ?_
  refine lv_aload_n hx hb d_LK_init_4 rfl (lv_at hl 0 rfl) ?_
  refine lv_aload_n hx hb d_LK_init_5 rfl (lv_at hl 1 rfl) ?_
  refine va_putF (D := D) (ci := 1) (v := .ref hr) (ty := (.object "LakeRelief$Relief")) (C := R_LK) (T := T_LK) (N := 6) hx hb hts i_LK t_LK t_LK_ok n_LK hown hG.1 hP hD hS 0 rfl rfl 4 (by decide) (hts _ in_160) (fun _ h => h) rfl hin rfl (by decide +kernel) rfl rfl (Nat.le_of_ble_eq_true rfl) d_LK_init_6 (fun H locs hP hD hS => ?_)
  refine lv_aload_n hx hb d_LK_init_9 rfl (lv_at hl 0 rfl) ?_
  refine lv_bipush (v := 35) hx hb d_LK_init_10 (by decide) ?_
  refine nw_LA (N' := 35) hx hb hown (hts _ in_94) hG hP hD hS hA (by decide) (by decide) (by decide) (by decide) (by decide) d_LK_init_12 (fun h1 H hP hD hS => ?_)
  refine va_putF (D := D) (ci := 1) (v := .ref h1) (ty := (.array (.object "LakeRelief$Lake"))) (C := R_LK) (T := T_LK) (N := 6) hx hb hts i_LK t_LK t_LK_ok n_LK hown hG.1 hP hD hS 0 rfl rfl 0 (by decide) (hts _ in_152) (fun _ h => h) rfl hin rfl (by decide +kernel) rfl rfl (Nat.le_of_ble_eq_true rfl) d_LK_init_15 (fun H locs hP hD hS => ?_)
  have hP : va_P D cls ([(h0, eLK h1 hr), (h1, eAr (cA 4) 35 (fun _ => none))] ++ pool 0 (fun _ => 0) eLA) H := hP
  have hD : va_D A ([(h0, eLK h1 hr), (h1, eAr (cA 4) 35 (fun _ => none))] ++ pool 0 (fun _ => 0) eLA) := hD
  refine lv_iconst (v := 0) hx hb d_LK_init_18 (by decide) ?_
  refine lv_istore_n (lv' := [(2, .int 0), (0, .ref h0), (1, .ref hr)]) hx hb d_LK_init_19 rfl hl (by decide) rfl (fun ls hl => ?_)
  refine w_LK_init_L20 C hG hA h0 h1 hr ?_ 35 0 rfl (fun _ => 0) (fun _ => none) H locs ls (fun j hj => absurd hj (Nat.not_lt_zero j)) hP hD hS (lv_sub hl [0, 1] rfl)
  clear hP hD hS hl
  intro a f H locs ls hf hP hD hS hl
  refine lv_aload_n hx hb d_LK_init_45 rfl (lv_at hl 0 rfl) ?_
  refine lv_iconst (v := 0) hx hb d_LK_init_46 (by decide) ?_
  refine va_put (D := D) (ci := 1) (v := .int 0) (ty := .int) (C := R_LK) (T := T_LK) (N := 6) hx hb hts i_LK t_LK t_LK_ok n_LK hown hG.1 hP hD hS 0 rfl rfl 1 (by decide) (hts _ in_154) (fun _ h => h) rfl (by decide +kernel) rfl rfl (Nat.le_of_ble_eq_true rfl) d_LK_init_47 (fun H locs hP hD hS => ?_)
  refine lv_aload_n hx hb d_LK_init_50 rfl (lv_at hl 0 rfl) ?_
  refine lv_lconst (v := 0) hx hb d_LK_init_51 (by decide) ?_
  refine va_put (D := D) (ci := 1) (v := .long 0) (ty := .long) (C := R_LK) (T := T_LK) (N := 6) hx hb hts i_LK t_LK t_LK_ok n_LK hown hG.1 hP hD hS 0 rfl rfl 2 (by decide) (hts _ in_156) (fun _ h => h) rfl (by decide +kernel) rfl rfl (Nat.le_of_ble_eq_true rfl) d_LK_init_52 (fun H locs hP hD hS => ?_)
  refine lv_aload_n hx hb d_LK_init_55 rfl (lv_at hl 0 rfl) ?_
  refine lv_lconst (v := 0) hx hb d_LK_init_56 (by decide) ?_
  refine va_put (D := D) (ci := 1) (v := .long 0) (ty := .long) (C := R_LK) (T := T_LK) (N := 6) hx hb hts i_LK t_LK t_LK_ok n_LK hown hG.1 hP hD hS 0 rfl rfl 3 (by decide) (hts _ in_158) (fun _ h => h) rfl (by decide +kernel) rfl rfl (Nat.le_of_ble_eq_true rfl) d_LK_init_57 (fun H locs hP hD hS => ?_)
  refine lv_aload_n hx hb d_LK_init_60 rfl (lv_at hl 0 rfl) ?_
  refine lv_lconst (v := 0) hx hb d_LK_init_61 (by decide) ?_
  refine va_put (D := D) (ci := 1) (v := .long 0) (ty := .long) (C := R_LK) (T := T_LK) (N := 6) hx hb hts i_LK t_LK t_LK_ok n_LK hown hG.1 hP hD hS 0 rfl rfl 5 (by decide) (hts _ in_161) (fun _ h => h) rfl (by decide +kernel) rfl rfl (Nat.le_of_ble_eq_true rfl) d_LK_init_62 (fun H locs hP hD hS => ?_)
  subst hAe
  exact ret_n (u := (h1, a, f)) hx hb hrt hlocks hf hP hD hS d_LK_init_65
end CT5
section CW3
variable {R : Room} {s : State} {args : Array Value}
theorem cw_LR_25 (hts : ∀ w ∈ lw_ok, w.before args s = true) (hR : rm_LK_init.frames + 1 ≤ R.frames ∧ 8 + (3 + 11) + rm_LK_init.locals ≤ R.locals) : CallB R s args "LakeRelief" 25 y_LK_init prog_3_method_1_code 3 none (Cond.code y_LK_init prog_3_method_1_code 3 none :: lw_ok) rm_LK_init rm_LK_init.cells rm_LK_init.slots 1 ∧ y_LK_init.name = "<init>" ∧ (Cond.instanceMethod y_LK_init).before args s = true := ⟨(callB_of 1 hts (ok_in in_92) rfl rfl rfl (hts _ in_4) (hts _ in_90) (by decide +kernel) hR), rfl, hts _ in_91⟩
end CW3
