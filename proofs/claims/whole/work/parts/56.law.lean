def mu0 : Mem := (fun q => if 2 ≤ q ∧ q < 10 then (fun j => if j = 1 then -1 else 0) else if q = 18 then (fun j => if j = 7 then 1 else 0) else if 28 ≤ q ∧ q < 63 then (fun j => if 1 ≤ j ∧ j ≤ 4 then -3 else 0) else (fun _ => 0), fun _ _ => 0)
def nu0 (f : Nat → Int32) : Mem := (fun q => if q = 64 then f else fun _ => 0, fun _ _ => 0)
def adr0 (h0 : Nat) (u : uLR) (g0 : Nat) (w : Nat → Nat) : Nat → Nat := fun q => if q = 0 then h0 else if q = 1 then u.1 else if q < 10 then u.2.2.1 (q - 2) else if q < 18 then u.2.2.2.1 (q - 10) else if q = 18 then u.2.2.2.2.1 else if q < 26 then u.2.2.2.2.2.1 (q - 19) else if q = 26 then u.2.2.2.2.2.2.1 else if q = 27 then u.2.2.2.2.2.2.2.1 else if q < 63 then u.2.2.2.2.2.2.2.2.1 (q - 28) else if q = 63 then g0 else w (q - 64)
def pos0 (q : Nat) : Nat := if q < 2 then q else if q < 10 then 2 * q - 2 else if q < 18 then 2 * q - 17 else q
theorem pos0_inj {i j : Nat} (h : pos0 i = pos0 j) : i = j := by
  unfold pos0 at h
  repeat' split at h
  all_goals omega
theorem at_ref {D : va_G} {a n : Nat} {c : ClassId} {f g : Nat → Option Nat} {H : Heap} (h : va_at D cls (a, eAr c n f) H) (e : ∀ j, j < n → f j = g j) : va_at D cls (a, eAr c n g) H := by
  have h : H[a]? = some (arrV c n (fun j => va_rf (f j))) := h
  show H[a]? = some (arrV c n (fun j => va_rf (g j)))
  rw [h]
  unfold arrV
  congr 3
  funext j
  show va_rf (f j.val) = va_rf (g j.val)
  rw [e j.val j.isLt]
set_option maxHeartbeats 4000000 in
set_option maxRecDepth 100000 in
theorem lw_pos (cA : Nat → ClassId) (h0 g0 : Nat) (u : uLR) (w : Nat → Nat) (f : Nat → Int32) : ∀ q, q < 86 → ∃ x, (wLR cA h0 u ++ wMO cA g0 w f)[pos0 q]? = some (adr0 h0 u g0 w q, x) := by
  intro q hq
  match q, hq with
  | 0, _ => exact ⟨_, rfl⟩
  | 1, _ => exact ⟨_, rfl⟩
  | 2, _ => exact ⟨_, rfl⟩
  | 3, _ => exact ⟨_, rfl⟩
  | 4, _ => exact ⟨_, rfl⟩
  | 5, _ => exact ⟨_, rfl⟩
  | 6, _ => exact ⟨_, rfl⟩
  | 7, _ => exact ⟨_, rfl⟩
  | 8, _ => exact ⟨_, rfl⟩
  | 9, _ => exact ⟨_, rfl⟩
  | 10, _ => exact ⟨_, rfl⟩
  | 11, _ => exact ⟨_, rfl⟩
  | 12, _ => exact ⟨_, rfl⟩
  | 13, _ => exact ⟨_, rfl⟩
  | 14, _ => exact ⟨_, rfl⟩
  | 15, _ => exact ⟨_, rfl⟩
  | 16, _ => exact ⟨_, rfl⟩
  | 17, _ => exact ⟨_, rfl⟩
  | 18, _ => exact ⟨_, rfl⟩
  | 19, _ => exact ⟨_, rfl⟩
  | 20, _ => exact ⟨_, rfl⟩
  | 21, _ => exact ⟨_, rfl⟩
  | 22, _ => exact ⟨_, rfl⟩
  | 23, _ => exact ⟨_, rfl⟩
  | 24, _ => exact ⟨_, rfl⟩
  | 25, _ => exact ⟨_, rfl⟩
  | 26, _ => exact ⟨_, rfl⟩
  | 27, _ => exact ⟨_, rfl⟩
  | 28, _ => exact ⟨_, rfl⟩
  | 29, _ => exact ⟨_, rfl⟩
  | 30, _ => exact ⟨_, rfl⟩
  | 31, _ => exact ⟨_, rfl⟩
  | 32, _ => exact ⟨_, rfl⟩
  | 33, _ => exact ⟨_, rfl⟩
  | 34, _ => exact ⟨_, rfl⟩
  | 35, _ => exact ⟨_, rfl⟩
  | 36, _ => exact ⟨_, rfl⟩
  | 37, _ => exact ⟨_, rfl⟩
  | 38, _ => exact ⟨_, rfl⟩
  | 39, _ => exact ⟨_, rfl⟩
  | 40, _ => exact ⟨_, rfl⟩
  | 41, _ => exact ⟨_, rfl⟩
  | 42, _ => exact ⟨_, rfl⟩
  | 43, _ => exact ⟨_, rfl⟩
  | 44, _ => exact ⟨_, rfl⟩
  | 45, _ => exact ⟨_, rfl⟩
  | 46, _ => exact ⟨_, rfl⟩
  | 47, _ => exact ⟨_, rfl⟩
  | 48, _ => exact ⟨_, rfl⟩
  | 49, _ => exact ⟨_, rfl⟩
  | 50, _ => exact ⟨_, rfl⟩
  | 51, _ => exact ⟨_, rfl⟩
  | 52, _ => exact ⟨_, rfl⟩
  | 53, _ => exact ⟨_, rfl⟩
  | 54, _ => exact ⟨_, rfl⟩
  | 55, _ => exact ⟨_, rfl⟩
  | 56, _ => exact ⟨_, rfl⟩
  | 57, _ => exact ⟨_, rfl⟩
  | 58, _ => exact ⟨_, rfl⟩
  | 59, _ => exact ⟨_, rfl⟩
  | 60, _ => exact ⟨_, rfl⟩
  | 61, _ => exact ⟨_, rfl⟩
  | 62, _ => exact ⟨_, rfl⟩
  | 63, _ => exact ⟨_, rfl⟩
  | 64, _ => exact ⟨_, rfl⟩
  | 65, _ => exact ⟨_, rfl⟩
  | 66, _ => exact ⟨_, rfl⟩
  | 67, _ => exact ⟨_, rfl⟩
  | 68, _ => exact ⟨_, rfl⟩
  | 69, _ => exact ⟨_, rfl⟩
  | 70, _ => exact ⟨_, rfl⟩
  | 71, _ => exact ⟨_, rfl⟩
  | 72, _ => exact ⟨_, rfl⟩
  | 73, _ => exact ⟨_, rfl⟩
  | 74, _ => exact ⟨_, rfl⟩
  | 75, _ => exact ⟨_, rfl⟩
  | 76, _ => exact ⟨_, rfl⟩
  | 77, _ => exact ⟨_, rfl⟩
  | 78, _ => exact ⟨_, rfl⟩
  | 79, _ => exact ⟨_, rfl⟩
  | 80, _ => exact ⟨_, rfl⟩
  | 81, _ => exact ⟨_, rfl⟩
  | 82, _ => exact ⟨_, rfl⟩
  | 83, _ => exact ⟨_, rfl⟩
  | 84, _ => exact ⟨_, rfl⟩
  | 85, _ => exact ⟨_, rfl⟩
  | n + 86, h => exact absurd h (by omega)
set_option maxHeartbeats 4000000 in
set_option maxRecDepth 100000 in
theorem lw_at (D : va_G) (cA : Nat → ClassId) (h0 g0 : Nat) (u : uLR) (w : Nat → Nat) (f : Nat → Int32) (H : Heap) (hP : va_P D cls (wLR cA h0 u ++ wMO cA g0 w f) H) (hu : (∀ j, j < 8 → u.2.1 j = some (u.2.2.1 j)) ∧ ∀ j, j < 35 → u.2.2.2.2.2.2.2.2.2 j = some (u.2.2.2.2.2.2.2.2.1 j)) : ∀ q, q < 86 → va_at D cls (adr0 h0 u g0 w q, wcell (adr0 h0 u g0 w) cA mu0 (nu0 f) q) H := by
  intro q hq
  match q, hq with
  | 0, _ => exact hP 0 _ rfl
  | 1, _ =>
    refine at_ref (f := u.2.1) (hP 1 _ rfl) (fun j hj => ?_)
    rw [hu.1 j hj]
    unfold adr0
    rw [if_neg (by omega), if_neg (by omega), if_pos (by omega), show 2 + j - 2 = j by omega]
  | 2, _ => exact hP 2 _ rfl
  | 3, _ => exact hP 4 _ rfl
  | 4, _ => exact hP 6 _ rfl
  | 5, _ => exact hP 8 _ rfl
  | 6, _ => exact hP 10 _ rfl
  | 7, _ => exact hP 12 _ rfl
  | 8, _ => exact hP 14 _ rfl
  | 9, _ => exact hP 16 _ rfl
  | 10, _ => exact hP 3 _ rfl
  | 11, _ => exact hP 5 _ rfl
  | 12, _ => exact hP 7 _ rfl
  | 13, _ => exact hP 9 _ rfl
  | 14, _ => exact hP 11 _ rfl
  | 15, _ => exact hP 13 _ rfl
  | 16, _ => exact hP 15 _ rfl
  | 17, _ => exact hP 17 _ rfl
  | 18, _ => exact hP 18 _ rfl
  | 19, _ => exact hP 19 _ rfl
  | 20, _ => exact hP 20 _ rfl
  | 21, _ => exact hP 21 _ rfl
  | 22, _ => exact hP 22 _ rfl
  | 23, _ => exact hP 23 _ rfl
  | 24, _ => exact hP 24 _ rfl
  | 25, _ => exact hP 25 _ rfl
  | 26, _ => exact hP 26 _ rfl
  | 27, _ =>
    refine at_ref (f := u.2.2.2.2.2.2.2.2.2) (hP 27 _ rfl) (fun j hj => ?_)
    rw [hu.2 j hj]
    unfold adr0
    rw [if_neg (by omega), if_neg (by omega), if_neg (by omega), if_neg (by omega), if_neg (by omega), if_neg (by omega), if_neg (by omega), if_neg (by omega), if_pos (by omega), show 28 + j - 28 = j by omega]
  | 28, _ => exact hP 28 _ rfl
  | 29, _ => exact hP 29 _ rfl
  | 30, _ => exact hP 30 _ rfl
  | 31, _ => exact hP 31 _ rfl
  | 32, _ => exact hP 32 _ rfl
  | 33, _ => exact hP 33 _ rfl
  | 34, _ => exact hP 34 _ rfl
  | 35, _ => exact hP 35 _ rfl
  | 36, _ => exact hP 36 _ rfl
  | 37, _ => exact hP 37 _ rfl
  | 38, _ => exact hP 38 _ rfl
  | 39, _ => exact hP 39 _ rfl
  | 40, _ => exact hP 40 _ rfl
  | 41, _ => exact hP 41 _ rfl
  | 42, _ => exact hP 42 _ rfl
  | 43, _ => exact hP 43 _ rfl
  | 44, _ => exact hP 44 _ rfl
  | 45, _ => exact hP 45 _ rfl
  | 46, _ => exact hP 46 _ rfl
  | 47, _ => exact hP 47 _ rfl
  | 48, _ => exact hP 48 _ rfl
  | 49, _ => exact hP 49 _ rfl
  | 50, _ => exact hP 50 _ rfl
  | 51, _ => exact hP 51 _ rfl
  | 52, _ => exact hP 52 _ rfl
  | 53, _ => exact hP 53 _ rfl
  | 54, _ => exact hP 54 _ rfl
  | 55, _ => exact hP 55 _ rfl
  | 56, _ => exact hP 56 _ rfl
  | 57, _ => exact hP 57 _ rfl
  | 58, _ => exact hP 58 _ rfl
  | 59, _ => exact hP 59 _ rfl
  | 60, _ => exact hP 60 _ rfl
  | 61, _ => exact hP 61 _ rfl
  | 62, _ => exact hP 62 _ rfl
  | 63, _ => exact hP 63 _ rfl
  | 64, _ => exact hP 64 _ rfl
  | 65, _ => exact hP 65 _ rfl
  | 66, _ => exact hP 66 _ rfl
  | 67, _ => exact hP 67 _ rfl
  | 68, _ => exact hP 68 _ rfl
  | 69, _ => exact hP 69 _ rfl
  | 70, _ => exact hP 70 _ rfl
  | 71, _ => exact hP 71 _ rfl
  | 72, _ => exact hP 72 _ rfl
  | 73, _ => exact hP 73 _ rfl
  | 74, _ => exact hP 74 _ rfl
  | 75, _ => exact hP 75 _ rfl
  | 76, _ => exact hP 76 _ rfl
  | 77, _ => exact hP 77 _ rfl
  | 78, _ => exact hP 78 _ rfl
  | 79, _ => exact hP 79 _ rfl
  | 80, _ => exact hP 80 _ rfl
  | 81, _ => exact hP 81 _ rfl
  | 82, _ => exact hP 82 _ rfl
  | 83, _ => exact hP 83 _ rfl
  | 84, _ => exact hP 84 _ rfl
  | 85, _ => exact hP 85 _ rfl
  | n + 86, h => exact absurd h (by omega)
theorem lw_world (D : va_G) (cA : Nat → ClassId) (h0 g0 : Nat) (u : uLR) (w : Nat → Nat) (f : Nat → Int32) (H : Heap) (hP : va_P D cls (wLR cA h0 u ++ wMO cA g0 w f) H) (hu : (∀ j, j < 8 → u.2.1 j = some (u.2.2.1 j)) ∧ ∀ j, j < 35 → u.2.2.2.2.2.2.2.2.2 j = some (u.2.2.2.2.2.2.2.2.1 j)) : va_P D cls (wld (adr0 h0 u g0 w) cA mu0 (nu0 f)) H := by
  intro k x hk
  by_cases h8 : k < 86
  · rw [wld_at h8] at hk
    cases hk
    exact lw_at D cA h0 g0 u w f H hP hu k h8
  · rw [wld_no h8] at hk
    cases hk
theorem lw_apart {A : Nat → Prop} (cA : Nat → ClassId) (h0 g0 : Nat) (u : uLR) (w : Nat → Nat) (f : Nat → Int32) (hD : va_D A (wLR cA h0 u ++ wMO cA g0 w f)) : (∀ i j, i < 86 → j < 86 → adr0 h0 u g0 w i = adr0 h0 u g0 w j → i = j) ∧ ∀ q, AA (adr0 h0 u g0 w) q → A q := by
  refine ⟨fun i j hi hj e => ?_, fun q h => ?_⟩
  · obtain ⟨x, h1⟩ := lw_pos cA h0 g0 u w f i hi
    obtain ⟨y, h2⟩ := lw_pos cA h0 g0 u w f j hj
    exact pos0_inj (hD.1 _ _ _ _ h1 h2 e)
  · obtain ⟨i, hi, rfl⟩ := h
    obtain ⟨x, h1⟩ := lw_pos cA h0 g0 u w f i hi
    exact hD.2 _ _ h1
theorem len6 {L k : Nat} (hL : L ≤ 3072) (hk : k ≤ L) (h : ¬ (Int32.ofNat L - 6 < nI k)) : k + 5 < L := by
  have h := Int32.not_lt.mp h
  rw [Int32.le_iff_toInt_le, nI_toInt (by omega), show Int32.ofNat L - 6 = nI L - nI 6 from rfl, pk_sub_toInt (by omega) (by omega)] at h
  omega
def R_law : String := "LakeReliefLaw"
def lw_P (b : Addr) (xs : List Int32) (args : Array Value) (s : State) : Prop := args = #[.ref b] ∧ s.IntsAt b xs ∧ xs.length ≤ 3072 ∧ (Jvm.Cond.and given_1 narrow_1).before args s = true
def lw_Q (_ : Array Value) (s : State) (o : Outcome) (t : State) : Prop := o = .returned (some (.int 1)) ∧ Framed s o t [] 600000 7302250
def lw_Z (below : List Frame) (a : Array Value) (s : State) : State → Prop := fun t => ∃ o, t.status = .running ∧ Ended t below o ∧ lw_Q a s o t
/-- the law's own end, with 1 on the stack, nothing written that was there before, its room as the claim has it -/
theorem lw_ret {p : Program} {l : Launch} {e : Env} {s : State} {m : MethodId} {below : List Frame} {meth : Method} {c : Code} {b : Nat} (hx : p.tables.exec = Jvm.exec) (hb : c.code = code) (hr : meth.sig.returnType = ret) (hlocks : meth.locks = false) {pc : Nat} {H : Heap} {ls : Array Slot} (hdg : decode code pc = .ok (.ireturn, 1)) : W p l e room_1 s m #[Value.ref b] below meth c H [] 600000 7302250 (lw_Z below #[Value.ref b] s) (F0 m pc ls [.int 1]) := by
  intro T hT X
  obtain ⟨fs, hret, hrun, hended, hW, hframe⟩ := X.leave (v := some (.int 1)) (hlocks := hlocks) (fun h => by rw [hr] at h; cases h)
  have hmeth' : T.vm.method? m = some meth := X.method'
  refine ⟨T.setFrames fs, ?_, .returned (some (.int 1)), hrun, hended, rfl, ⟨_, rfl⟩, hW, hframe⟩
  jvm_step X.here [X.here.top, hx, hb, hdg, hmeth', hr, ret, narrow_b1]
  (try refine ⟨rfl, ?_⟩); (try refine ⟨rfl, ?_⟩)
  first | (intro acts; rw [hret _ acts rfl rfl rfl]) | rw [hret _ _ rfl rfl rfl]
  exact Steps.refl _
/-- what holds at the law's entry: the machine, the code, the tables' words (any of lw_tbl by 'hts w (by decide +kernel)'), the script of L ints xs at the cell b, what the Statement gives of the start (any of its parts by flat_of_before) -/
def lw_At (p : Program) (s : State) (m : MethodId) (meth : Method) (c : Code) (b L : Nat) (xs : Nat → Int32) : Prop :=
  p.tables.exec = Jvm.exec ∧ c.code = code ∧ meth.sig.returnType = ret ∧ c.maxLocals = 4 ∧ s.vm.findClass R_law = some m.cls ∧ (∀ w ∈ lw_tbl, w.before #[Value.ref b] s = true) ∧ va_X b L xs s s.heap ∧ b < s.heap.size ∧ meth.locks = false ∧ (Jvm.Cond.and given_1 narrow_1).before #[Value.ref b] s = true
-- ===== YOUR PART BEGINS =====
section LAW2
variable {p : Program} {l : Launch} {e : Env} {s : State} {m : MethodId} {below : List Frame} {meth : Method} {c : Code} {D : va_G} {adr : Nat → Nat} {cA : Nat → ClassId}
set_option maxHeartbeats 4000000 in
set_option maxRecDepth 100000 in
theorem law_loop {b L : Nat} {xs : Nat → Int32} {J : Mem → Mem → Prop} (hJ : JStp J) (X : Lx p s m #[Value.ref b] c D adr cA b L xs) (hr : meth.sig.returnType = ret) (hlocks : meth.locks = false) :
    ∀ (n k : Nat), k ≤ L → L - k < n → ∀ (μ ν : Mem) (H : Heap) (locs : List Loc) (ls : Array Slot), J μ ν → va_P D cls (wld adr cA μ ν) H → va_S (fun q : Nat => s.heap.size ≤ q) s.heap H locs → lv_has ls 4 [(0, .ref b), (1, .ref (adr 0)), (2, .ref (adr 63)), (3, .int (nI k))] → W p l e room_1 s m #[Value.ref b] below meth c H locs 600000 7302250 (lw_Z below #[Value.ref b] s) (F0 m 18 ls []) := by
  obtain ⟨hx, hb, hml, hown, hts, hG, hX, hbl, hL, hAA⟩ := id X
  have hbA : ¬ (fun q : Nat => s.heap.size ≤ q) b := Nat.not_le.mpr hbl
  intro n
  induction n with
  | zero => intro k _ h; exact absurd h (Nat.not_lt_zero _)
  | succ n ih =>
    intro k hkL hm μ ν H locs ls h0 hP hS hl
    refine lv_iload_n hx hb d_law_18 rfl (lv_at hl 3 rfl) ?_
    refine lv_aload_n hx hb d_law_19 rfl (lv_at hl 0 rfl) ?_
    refine va_slen hx hb hX hbl hbA hS d_law_20 ?_
    refine lv_bipush (v := 6) hx hb d_law_21 (by decide) ?_
    refine lv_isub hx hb d_law_23 ?_
    refine lv_icmp_gt (tgt := 658) hx hb d_law_24 (by decide) (fun hc => ?_) (fun hc => ?_)
    · refine lv_iconst (v := 1) hx hb d_law_658 (by decide) ?_
      refine va_forget (fun q hq => hS.2.2 q hq) ?_
      exact lw_ret hx hb hr hlocks d_law_659
    · have hk := len6 hL hkL hc
      have hE : ∀ (μ ν : Mem) (H : Heap) (locs : List Loc) (ls : Array Slot), J μ ν → va_P D cls (wld adr cA μ ν) H → va_S (fun q : Nat => s.heap.size ≤ q) s.heap H locs → lv_has ls 4 [(0, .ref b), (1, .ref (adr 0)), (2, .ref (adr 63)), (3, .int (nI k))] → W p l e room_1 s m #[Value.ref b] below meth c H locs 600000 7302250 (lw_Z below #[Value.ref b] s) (F0 m 652 ls []) := by
        intro μ ν H locs ls h0 hP hS hl
        refine lv_iinc (v := nI (k + 6)) (lv' := [(3, .int (nI (k + 6))), (0, .ref b), (1, .ref (adr 0)), (2, .ref (adr 63))]) hx hb d_law_652 hl (k := 3) rfl (nI_add k 6) (by decide) rfl (fun ls hl => ?_)
        refine lv_goto (tgt := 18) hx hb d_law_655 (by decide) ?_
        exact ih (k + 6) (by omega) (by omega) μ ν H locs ls h0 hP hS (lv_sub hl [1, 2, 3, 0] rfl)
      refine lv_aload_n hx hb d_law_27 rfl (lv_at hl 0 rfl) ?_
      refine lv_iload_n hx hb d_law_28 rfl (lv_at hl 3 rfl) ?_
      refine va_sld hx hb hX hbl hbA hS (vp_in_nI (by omega) (by omega)) d_law_29 ?_
      refine lv_bipush (v := 15) hx hb d_law_30 (by decide) ?_
      refine lv_iand hx hb d_law_32 ?_
      obtain ⟨j, hj, he⟩ := pk_andE (xs (nI k).toNatClampNeg) (m := 15) 4 rfl
      match j, hj, he with
      | 0, _, he =>
        refine lv_tableIn (tgt := 112) (off := 79) hx hb d_law_33 (by rw [he]; decide) (by rw [he]; decide) (by rw [he]; rfl) (by decide) ?_
        exact law_strip hJ X hk hE h0 hP hS hl
      | 1, _, he =>
        refine lv_tableIn (tgt := 155) (off := 122) hx hb d_law_33 (by rw [he]; decide) (by rw [he]; decide) (by rw [he]; rfl) (by decide) ?_
        exact law_put hJ X hk hE h0 hP hS hl
      | 2, _, he =>
        refine lv_tableIn (tgt := 198) (off := 165) hx hb d_law_33 (by rw [he]; decide) (by rw [he]; decide) (by rw [he]; rfl) (by decide) ?_
        exact law_copy hJ X hk hE h0 hP hS hl
      | 3, _, he =>
        refine lv_tableIn (tgt := 261) (off := 228) hx hb d_law_33 (by rw [he]; decide) (by rw [he]; decide) (by rw [he]; rfl) (by decide) ?_
        exact law_told hJ X hk hE h0 hP hS hl
      | 4, _, he =>
        refine lv_tableIn (tgt := 295) (off := 262) hx hb d_law_33 (by rw [he]; decide) (by rw [he]; decide) (by rw [he]; rfl) (by decide) ?_
        exact law_lay hJ X hk hE h0 hP hS hl
      | 5, _, he =>
        refine lv_tableIn (tgt := 328) (off := 295) hx hb d_law_33 (by rw [he]; decide) (by rw [he]; decide) (by rw [he]; rfl) (by decide) ?_
        exact law_field hJ X hk hE h0 hP hS hl
      | 6, _, he =>
        refine lv_tableIn (tgt := 361) (off := 328) hx hb d_law_33 (by rw [he]; decide) (by rw [he]; decide) (by rw [he]; rfl) (by decide) ?_
        exact law_hollow hJ X hk hE h0 hP hS hl
      | 7, _, he =>
        refine lv_tableIn (tgt := 384) (off := 351) hx hb d_law_33 (by rw [he]; decide) (by rw [he]; decide) (by rw [he]; rfl) (by decide) ?_
        exact law_lake hJ X hk hE h0 hP hS hl
      | 8, _, he =>
        refine lv_tableIn (tgt := 417) (off := 384) hx hb d_law_33 (by rw [he]; decide) (by rw [he]; decide) (by rw [he]; rfl) (by decide) ?_
        exact law_ground hJ X hk hE h0 hP hS hl
      | 9, _, he =>
        refine lv_tableIn (tgt := 450) (off := 417) hx hb d_law_33 (by rw [he]; decide) (by rw [he]; decide) (by rw [he]; rfl) (by decide) ?_
        exact law_holds hJ X hk hE h0 hP hS hl
      | 10, _, he =>
        refine lv_tableIn (tgt := 483) (off := 450) hx hb d_law_33 (by rw [he]; decide) (by rw [he]; decide) (by rw [he]; rfl) (by decide) ?_
        exact law_area hJ X hk hE h0 hP hS hl
      | 11, _, he =>
        refine lv_tableIn (tgt := 516) (off := 483) hx hb d_law_33 (by rw [he]; decide) (by rw [he]; decide) (by rw [he]; rfl) (by decide) ?_
        exact law_pour hJ X hk hE h0 hP hS hl
      | 12, _, he =>
        refine lv_tableIn (tgt := 549) (off := 516) hx hb d_law_33 (by rw [he]; decide) (by rw [he]; decide) (by rw [he]; rfl) (by decide) ?_
        exact law_level hJ X hk hE h0 hP hS hl
      | 13, _, he =>
        refine lv_tableIn (tgt := 582) (off := 549) hx hb d_law_33 (by rw [he]; decide) (by rw [he]; decide) (by rw [he]; rfl) (by decide) ?_
        exact law_rise hJ X hk hE h0 hP hS hl
      | 14, _, he =>
        refine lv_tableIn (tgt := 605) (off := 572) hx hb d_law_33 (by rw [he]; decide) (by rw [he]; decide) (by rw [he]; rfl) (by decide) ?_
        exact law_islands hJ X hk hE h0 hP hS hl
      | 15, _, he =>
        refine lv_tableIn (tgt := 628) (off := 595) hx hb d_law_33 (by rw [he]; decide) (by rw [he]; decide) (by rw [he]; rfl) (by decide) ?_
        exact law_count hJ X hk hE h0 hP hS hl
      | j + 16, h, _ => exact absurd h (by omega)
end LAW2
set_option maxHeartbeats 4000000 in
set_option maxRecDepth 100000 in
/-- the law from its entry, for a tie J that every call keeps -/
theorem whole_of {J : Mem → Mem → Prop} (hJ : JStp J) (hJ0 : ∀ f : Nat → Int32, (∀ j, j < 8 → f j = -1) → J mu0 (nu0 f)) {p : Program} {e : Env} {s : State} {m : MethodId} {below : List Frame} {meth : Method} {c : Code} (l : Launch) {b L : Nat} {xs : Nat → Int32} (hL : L ≤ 3072) (C0 : lw_At p s m meth c b L xs) : W p l e room_1 s m #[Value.ref b] below meth c s.heap [] 0 0 (lw_Z below #[Value.ref b] s) (entryFrame m ([Value.ref b] : List Value).toArray 4) := by
  obtain ⟨hx, hb, hr, hml, hown0, hts, hX, hbl, hlocks, hgv⟩ := id C0
  have hown : s.vm.findClass "LakeReliefLaw" = some m.cls := hown0
  have hok : ∀ w ∈ lw_ok, w.before #[Value.ref b] s = true := fun w h => hts w (List.mem_filter.mp h).1
  have hA : ∀ q : Nat, s.heap.size ≤ q → (fun q : Nat => s.heap.size ≤ q) q := fun _ h => h
  have hN : Nst s := ⟨va_Nw.of rfl (hts _ in_256), va_Nw.of rfl (hts _ in_279), va_Nw.of rfl (hts _ in_347), va_Nw.of rfl (hts _ in_348)⟩
  obtain ⟨c0, iS0, hKn0⟩ := u_known (C := R_LA) (T := T_LA) (N := 8) (n := 8) hok i_LA (hok _ in_96)
  obtain ⟨c1, iS1, hKn1⟩ := u_known (C := R_LK) (T := T_LK) (N := 6) (n := 6) hok i_LK (hok _ in_89)
  obtain ⟨c2, iS2, hKn2⟩ := u_known (C := R_RE) (T := T_RE) (N := 11) (n := 11) hok i_RE (hok _ in_39)
  obtain ⟨c3, iS3, hKn3⟩ := u_known (C := R_ST) (T := T_ST) (N := 3) (n := 3) hok i_ST (hok _ in_20)
  obtain ⟨c4, iS4, hKn4⟩ := u_known (C := R_LR) (T := T_LR) (N := 4) (n := 4) hok i_LR (hok _ in_11)
  obtain ⟨c5, iS5, hKn5⟩ := u_known (C := R_MO) (T := T_MO) (N := 29) (n := 29) hok i_MO (hok _ in_556)
  obtain ⟨dC, dI, hKc⟩ : ∃ (dC : Nat → ClassId) (dI : Nat → Nat → Nat), ∀ (k : Nat) (q : vw_C), cls[k]? = some q → u_Kn s q.1 q.2.1 q.2.2 (dC k) (dI k) := by
    refine ⟨fun k => if k = 0 then c0 else if k = 1 then c1 else if k = 2 then c2 else if k = 3 then c3 else if k = 4 then c4 else c5, fun k => if k = 0 then iS0 else if k = 1 then iS1 else if k = 2 then iS2 else if k = 3 then iS3 else if k = 4 then iS4 else iS5, ?_⟩
    intro k q hq
    match k, hq with
    | 0, hq => cases hq; exact hKn0
    | 1, hq => cases hq; exact hKn1
    | 2, hq => cases hq; exact hKn2
    | 3, hq => cases hq; exact hKn3
    | 4, hq => cases hq; exact hKn4
    | 5, hq => cases hq; exact hKn5
    | k + 6, hq => simp [cls] at hq
  have hoS : va_AO "LakeRelief$Strip" s := va_AO.of (hts (.arrayOver (.object "LakeRelief$Strip")) (List.mem_append_right _ (List.mem_of_getElem? (i := 19) (by decide +kernel))))
  have hoL : va_AO "LakeRelief$Lake" s := va_AO.of (hts (.arrayOver (.object "LakeRelief$Lake")) (List.mem_append_right _ (List.mem_of_getElem? (i := 95) (by decide +kernel))))
  obtain ⟨a0, k0, p0, f0, g0, e0⟩ := Cond.arrayClass_spec (hok _ in_37)
  obtain ⟨a1, k1, p1, f1, g1, e1⟩ := Cond.arrayClass_spec (hok _ in_649)
  obtain ⟨a2, k2, p2, f2, g2, e2⟩ := Cond.arrayClass_spec (hok _ in_650)
  obtain ⟨p3, a3, k3, f3, -, g3, e3, h3⟩ := Cond.arrayOver_spec hoS
  obtain ⟨p4, a4, k4, f4, -, g4, e4, h4⟩ := Cond.arrayOver_spec hoL
  obtain ⟨cA, q0, q1, q2, q3, q4⟩ : ∃ cA : Nat → ClassId, cA 0 = a0 ∧ cA 1 = a1 ∧ cA 2 = a2 ∧ cA 3 = a3 ∧ cA 4 = a4 := ⟨fun k => if k = 0 then a0 else if k = 1 then a1 else if k = 2 then a2 else if k = 3 then a3 else a4, rfl, rfl, rfl, rfl, rfl⟩
  subst q0; subst q1; subst q2; subst q3; subst q4
  have hK : va_K (dC, dI) cls (tys cA) s := by
    refine ⟨hKc, fun k q hk => ?_⟩
    match k, hk with
    | 0, hk => cases hk; exact ⟨fun n z => ⟨fun k h => (by cases h), k0, g0, p0, e0⟩, f0⟩
    | 1, hk => cases hk; exact ⟨fun n z => ⟨fun k h => (by cases h), k1, g1, p1, e1⟩, f1⟩
    | 2, hk => cases hk; exact ⟨fun n z => ⟨fun k h => (by cases h), k2, g2, p2, e2⟩, f2⟩
    | 3, hk => cases hk; exact ⟨fun n z => ⟨fun k h => (by cases h), k3, g3, p3, e3⟩, k3, p3, g3, e3, f3, h3⟩
    | 4, hk => cases hk; exact ⟨fun n z => ⟨fun k h => (by cases h), k4, g4, p4, e4⟩, k4, p4, g4, e4, f4, h4⟩
    | k + 5, hk => simp [tys] at hk
  have hG : GK (dC, dI) cA s := ⟨hK, hN, hoS, hoL⟩
  have hS : va_S (fun q : Nat => s.heap.size ≤ q) s.heap s.heap [] := va_S.rf
  have hP : va_P (dC, dI) cls [] s.heap := fun k q h => by simp at h
  have hD : va_D (fun q : Nat => s.heap.size ≤ q) [] := ⟨fun i j p q h => by simp at h, fun k q h => by simp at h⟩
  have hl := lv_entry ([.ref b]) (n := 4) (Nat.le_of_ble_eq_true rfl)
  rw [lg_entry_eq]
  generalize (lg_sl ([.ref b]) ++ List.replicate (4 - (lg_sl ([.ref b])).length) Slot.unset).toArray = ls at hl ⊢
  have hl : lv_has ls 4 [(0, .ref b)] := hl
  refine va_new (ci := 4) (fs := [.null, .null, .null, .int 0]) (C := R_LR) (T := T_LR) (N := 4) hx hb hok i_LR t_LR t_LR_ok hown (hok _ in_10) (hok _ in_11) (hok _ in_1) hK hP hD hS hA rfl (fun j hj => by rcases (show j = 0 ∨ j = 1 ∨ j = 2 ∨ j = 3 by omega) with rfl | rfl | rfl | rfl <;> rfl) (Nat.le_of_ble_eq_true rfl) (Nat.le_of_ble_eq_true rfl) d_law_0 (fun hx0 H hP hD hS => ?_)
  refine lv_dup hx hb d_law_3 rfl ?_
  refine kc (wr := []) (As := []) (rest := [.ref hx0]) ⟨hx, hb, hml, hown, hok⟩ (cw_LG_9 hok ⟨Nat.le_of_ble_eq_true rfl, Nat.le_of_ble_eq_true rfl⟩) (c_LR_init l (dC, dI) cA hx0 H.size) hG hP hD hS hA rfl hl.1 (Nat.le_of_ble_eq_true rfl) ⟨Nat.le_of_ble_eq_true rfl, Nat.le_of_ble_eq_true rfl⟩ d_law_4 (fun u H locs hu hP hD hS => ?_)
  have hP : va_P (dC, dI) cls (wLR cA hx0 u) H := hP
  have hD : va_D (fun q : Nat => s.heap.size ≤ q) (wLR cA hx0 u) := hD
  refine lv_astore_n (lv' := [(1, .ref hx0), (0, .ref b)]) hx hb d_law_7 rfl hl (by decide) rfl (fun ls hl => ?_)
  refine va_new (ci := 5) (fs := [.null, .null, .null, .int 0, .int 0, .int 0, .null, .null, .null, .null, .null, .int 0, .null, .null, .null, .null, .null, .null, .null, .null, .long 0, .long 0, .null, .null, .null, .null, .int 0, .null, .null]) (C := R_MO) (T := T_MO) (N := 29) hx hb hok i_MO t_MO t_MO_ok hown (hok _ in_555) (hok _ in_556) (hok _ in_7) hK hP hD hS hA rfl (fun j hj => by rcases (show j = 0 ∨ j = 1 ∨ j = 2 ∨ j = 3 ∨ j = 4 ∨ j = 5 ∨ j = 6 ∨ j = 7 ∨ j = 8 ∨ j = 9 ∨ j = 10 ∨ j = 11 ∨ j = 12 ∨ j = 13 ∨ j = 14 ∨ j = 15 ∨ j = 16 ∨ j = 17 ∨ j = 18 ∨ j = 19 ∨ j = 20 ∨ j = 21 ∨ j = 22 ∨ j = 23 ∨ j = 24 ∨ j = 25 ∨ j = 26 ∨ j = 27 ∨ j = 28 by omega) with rfl | rfl | rfl | rfl | rfl | rfl | rfl | rfl | rfl | rfl | rfl | rfl | rfl | rfl | rfl | rfl | rfl | rfl | rfl | rfl | rfl | rfl | rfl | rfl | rfl | rfl | rfl | rfl | rfl <;> rfl) (Nat.le_of_ble_eq_true rfl) (Nat.le_of_ble_eq_true rfl) d_law_8 (fun hm0 H hP hD hS => ?_)
  refine lv_dup hx hb d_law_11 rfl ?_
  refine kc (wr := wLR cA hx0 u) (As := []) (rest := [.ref hm0]) ⟨hx, hb, hml, hown, hok⟩ (cw_LG_12 hok ⟨Nat.le_of_ble_eq_true rfl, Nat.le_of_ble_eq_true rfl⟩) (c_MO_init l (dC, dI) cA hm0 H.size) hG hP hD hS hA rfl hl.1 (Nat.le_of_ble_eq_true rfl) ⟨Nat.le_of_ble_eq_true rfl, Nat.le_of_ble_eq_true rfl⟩ d_law_12 (fun w H locs hw hP hD hS => ?_)
  refine lv_astore_n (lv' := [(2, .ref hm0), (1, .ref hx0), (0, .ref b)]) hx hb d_law_15 rfl hl (by decide) rfl (fun ls hl => ?_)
  refine lv_iconst (v := 0) hx hb d_law_16 (by decide) ?_
  refine lv_istore_n (lv' := [(3, .int 0), (2, .ref hm0), (1, .ref hx0), (0, .ref b)]) hx hb d_law_17 rfl hl (by decide) rfl (fun ls hl => ?_)
  have hPw := lw_world (dC, dI) cA hx0 hm0 u w.1 w.2 H hP hu
  obtain ⟨hI, hAA⟩ := lw_apart cA hx0 hm0 u w.1 w.2 hD
  refine W.widen (k := 600000) (n := 7302250) (Nat.le_of_ble_eq_true rfl) (Nat.le_of_ble_eq_true rfl) ?_
  exact law_loop hJ ⟨hx, hb, hml, hown, hok, ⟨hK, hI, hN⟩, hX, hbl, hL, hAA⟩ hr hlocks (L + 1) 0 (Nat.zero_le _) (by omega) mu0 (nu0 w.2) H locs ls (hJ0 w.2 hw) hPw hS (lv_sub hl [3, 2, 1, 0] rfl)
