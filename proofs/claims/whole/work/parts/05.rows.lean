def FU : Nat := 1000000
/-- an index within, or nothing -/
def G {α : Type} (i : Int32) (n : Nat) (x : Option α) : Option α := if 0 ≤ i.toInt ∧ i.toInt < (n : Int) then x else none
/-- a divisor that is not 0, or nothing -/
def Zg {α : Type} (y : Int32) (x : Option α) : Option α := if y = 0 then none else x
/-- a boolean, or nothing -/
def Bg {α : Type} (y : Int32) (x : Option α) : Option α := if y &&& 1 = y then x else none
/-- what arraycopy wants, or nothing -/
def Cg {α : Type} (i j n : Int32) (x : Option α) : Option α := if ¬ i < 0 ∧ ¬ j < 0 ∧ ¬ n < 0 ∧ i.toNatClampNeg + n.toNatClampNeg ≤ 12 ∧ j.toNatClampNeg + n.toNatClampNeg ≤ 12 then x else none
theorem if_p {c : Prop} [Decidable c] {α : Type} {a b r : α} (h : c) (e : (if c then a else b) = r) : a = r := by rwa [if_pos h] at e
theorem if_n {c : Prop} [Decidable c] {α : Type} {a b r : α} (h : ¬ c) (e : (if c then a else b) = r) : b = r := by rwa [if_neg h] at e
theorem G_some {α : Type} {i : Int32} {n : Nat} {x : Option α} {r : α} (h : G i n x = some r) : vp_in i n ∧ x = some r := by
  unfold G at h
  by_cases c : 0 ≤ i.toInt ∧ i.toInt < (n : Int)
  · rw [if_pos c] at h; exact ⟨vp_in_iff.mpr c, h⟩
  · rw [if_neg c] at h; cases h
theorem Zg_some {α : Type} {y : Int32} {x : Option α} {r : α} (h : Zg y x = some r) : ¬ y = 0 ∧ x = some r := by
  unfold Zg at h
  by_cases c : y = 0
  · rw [if_pos c] at h; cases h
  · rw [if_neg c] at h; exact ⟨c, h⟩
theorem Bg_some {α : Type} {y : Int32} {x : Option α} {r : α} (h : Bg y x = some r) : y &&& 1 = y ∧ x = some r := by
  unfold Bg at h
  by_cases c : y &&& 1 = y
  · rw [if_pos c] at h; exact ⟨c, h⟩
  · rw [if_neg c] at h; cases h
theorem Cg_some {α : Type} {i j n : Int32} {x : Option α} {r : α} (h : Cg i j n x = some r) : (¬ i < 0 ∧ ¬ j < 0 ∧ ¬ n < 0 ∧ i.toNatClampNeg + n.toNatClampNeg ≤ 12 ∧ j.toNatClampNeg + n.toNatClampNeg ≤ 12) ∧ x = some r := by
  unfold Cg at h
  by_cases c : ¬ i < 0 ∧ ¬ j < 0 ∧ ¬ n < 0 ∧ i.toNatClampNeg + n.toNatClampNeg ≤ 12 ∧ j.toNatClampNeg + n.toNatClampNeg ≤ 12
  · rw [if_pos c] at h; exact ⟨c, h⟩
  · rw [if_neg c] at h; cases h
theorem B_some {α β : Type} {x : Option α} {f : α → Option β} {r : β} (h : x.bind f = some r) : ∃ v, x = some v ∧ f v = some r := by
  cases x with
  | none => cases h
  | some v => exact ⟨v, rfl, h⟩
theorem vin_lt {i : Int32} {n : Nat} (h : vp_in i n) : i.toNatClampNeg < n := Nat.not_le.mp fun q => h (Or.inr q)
theorem sw_ne {x : Int32} {k : Int} (h : ¬ x = Int32.ofInt k) (h1 : -2147483648 ≤ k) (h2 : k < 2147483648) : ¬ x.toInt = k := by
  intro e
  exact h (by rw [← e]; exact (Int32.ofInt_toInt x).symm)
section ROWS2
variable {p : Program} {l : Launch} {e : Env} {R : Room} {s : State} {m : MethodId} {args : Array Value} {below : List Frame} {meth : Method} {c : Code} {H : Heap} {locs : List Loc} {cells slots : Nat} {Q : State → Prop}
variable {cc : ByteArray} {pc : Nat} {ls : Array Slot} {rest : List Value} {D : va_G} {adr : Nat → Nat} {cA : Nat → ClassId} {μ ν μ' ν' : Mem} {H0 : Heap} {own : String} {index : Nat}
theorem r_iald (hx : p.tables.exec = Jvm.exec) (hb : c.code = cc) (hG : Geo D adr cA s) (hP : va_P D cls (wld adr cA μ ν) H) (q n : Nat) {f : Nat → Int32} (hq : q < 86) (hc : wcell adr cA μ ν q = .inl (cA 0, n, .inl f)) {i : Int32} (hin : vp_in i n) (hdg : decode cc pc = .ok (.iaload, 1))
    (kk : W p l e R s m args below meth c H locs cells slots Q (F0 m (pc + 1) ls (.int (f i.toNatClampNeg) :: rest))) : W p l e R s m args below meth c H locs cells slots Q (F0 m pc ls (.int i :: .ref (adr q) :: rest)) :=
  va_iald hx hb hG.1 hP q 0 (wld_e hq hc) rfl hin hdg kk
theorem r_zald (hx : p.tables.exec = Jvm.exec) (hb : c.code = cc) (hG : Geo D adr cA s) (hP : va_P D cls (wld adr cA μ ν) H) (q n : Nat) {f : Nat → Int32} (hq : q < 86) (hc : wcell adr cA μ ν q = .inl (cA 1, n, .inl f)) {i : Int32} (hin : vp_in i n) (hdg : decode cc pc = .ok (.baload, 1))
    (kk : W p l e R s m args below meth c H locs cells slots Q (F0 m (pc + 1) ls (.int (f i.toNatClampNeg) :: rest))) : W p l e R s m args below meth c H locs cells slots Q (F0 m pc ls (.int i :: .ref (adr q) :: rest)) :=
  va_zald hx hb hG.1 hP q 1 (wld_e hq hc) rfl hin hdg kk
theorem r_lald (hx : p.tables.exec = Jvm.exec) (hb : c.code = cc) (hG : Geo D adr cA s) (hP : va_P D cls (wld adr cA μ ν) H) (q n : Nat) {f : Nat → Int64} (hq : q < 86) (hc : wcell adr cA μ ν q = .inl (cA 2, n, .inr (.inl f))) {i : Int32} (hin : vp_in i n) (hdg : decode cc pc = .ok (.laload, 1))
    (kk : W p l e R s m args below meth c H locs cells slots Q (F0 m (pc + 1) ls (.long (f i.toNatClampNeg) :: rest))) : W p l e R s m args below meth c H locs cells slots Q (F0 m pc ls (.int i :: .ref (adr q) :: rest)) :=
  va_lald hx hb hG.1 hP q 2 (wld_e hq hc) rfl hin hdg kk
theorem r_aST (hx : p.tables.exec = Jvm.exec) (hb : c.code = cc) (hG : Geo D adr cA s) (hP : va_P D cls (wld adr cA μ ν) H) {i : Int32} (hin : vp_in i 8) (hdg : decode cc pc = .ok (.aaload, 1))
    (kk : W p l e R s m args below meth c H locs cells slots Q (F0 m (pc + 1) ls (.ref (adr (2 + i.toNatClampNeg)) :: rest))) : W p l e R s m args below meth c H locs cells slots Q (F0 m pc ls (.int i :: .ref (adr 1) :: rest)) :=
  va_aldq hx hb hG.1 hP 1 3 (n := 8) (f := fun j => some (adr (2 + j))) (wld_e (by decide) (wc_C (by decide) rfl)) rfl hin hdg kk
theorem r_aLA (hx : p.tables.exec = Jvm.exec) (hb : c.code = cc) (hG : Geo D adr cA s) (hP : va_P D cls (wld adr cA μ ν) H) {i : Int32} (hin : vp_in i 35) (hdg : decode cc pc = .ok (.aaload, 1))
    (kk : W p l e R s m args below meth c H locs cells slots Q (F0 m (pc + 1) ls (.ref (adr (28 + i.toNatClampNeg)) :: rest))) : W p l e R s m args below meth c H locs cells slots Q (F0 m pc ls (.int i :: .ref (adr 27) :: rest)) :=
  va_aldq hx hb hG.1 hP 27 4 (n := 35) (f := fun j => some (adr (28 + j))) (wld_e (by decide) (wc_C (by decide) rfl)) rfl hin hdg kk
theorem rC_iast (hx : p.tables.exec = Jvm.exec) (hb : c.code = cc) (hG : Geo D adr cA s) (hP : va_P D cls (wld adr cA μ ν) H) (hS : va_S (AA adr) H0 H locs) (q n : Nat) (hq : q < 63) (hc : ∀ f g, shC adr cA q f g = .inl (cA 0, n, .inl f)) {i x : Int32} (hin : vp_in i n) (hdg : decode cc pc = .ok (.iastore, 1))
    (kk : ∀ (H1 : Heap) (locs1 : List Loc), va_P D cls (wld adr cA (sI μ q i.toNatClampNeg x) ν) H1 → va_S (AA adr) H0 H1 locs1 → W p l e R s m args below meth c H1 locs1 cells slots Q (F0 m (pc + 1) ls rest)) : W p l e R s m args below meth c H locs cells slots Q (F0 m pc ls (.int x :: .int i :: .ref (adr q) :: rest)) := by
  refine va_iast hx hb hG.1 hP (wld_D hG.2.1) hS q 0 (n := n) (f := μ.1 q) (wld_e (by omega) (wc_C hq (hc _ _))) rfl hin hdg (fun H1 locs1 hP1 _ hS1 => kk H1 locs1 ?_ hS1)
  refine (wld_set (q := q) (by omega) (sI_C) (wc_C hq ?_)) ▸ hP1
  rw [hc, sI_q]
theorem rM_iast (hx : p.tables.exec = Jvm.exec) (hb : c.code = cc) (hG : Geo D adr cA s) (hP : va_P D cls (wld adr cA μ ν) H) (hS : va_S (AA adr) H0 H locs) (q n : Nat) (hq : ¬ q < 63) (hq2 : q < 86) (hc : ∀ f g, shM adr cA q f g = .inl (cA 0, n, .inl f)) {i x : Int32} (hin : vp_in i n) (hdg : decode cc pc = .ok (.iastore, 1))
    (kk : ∀ (H1 : Heap) (locs1 : List Loc), va_P D cls (wld adr cA μ (sI ν q i.toNatClampNeg x)) H1 → va_S (AA adr) H0 H1 locs1 → W p l e R s m args below meth c H1 locs1 cells slots Q (F0 m (pc + 1) ls rest)) : W p l e R s m args below meth c H locs cells slots Q (F0 m pc ls (.int x :: .int i :: .ref (adr q) :: rest)) := by
  refine va_iast hx hb hG.1 hP (wld_D hG.2.1) hS q 0 (n := n) (f := ν.1 q) (wld_e hq2 (wc_M hq (hc _ _))) rfl hin hdg (fun H1 locs1 hP1 _ hS1 => kk H1 locs1 ?_ hS1)
  refine (wld_set (q := q) hq2 (sI_M) (wc_M hq ?_)) ▸ hP1
  rw [hc, sI_q]
theorem rM_zast (hx : p.tables.exec = Jvm.exec) (hb : c.code = cc) (hG : Geo D adr cA s) (hP : va_P D cls (wld adr cA μ ν) H) (hS : va_S (AA adr) H0 H locs) (q n : Nat) (hq : ¬ q < 63) (hq2 : q < 86) (hc : ∀ f g, shM adr cA q f g = .inl (cA 1, n, .inl f)) {i x : Int32} (hin : vp_in i n) (hdg : decode cc pc = .ok (.bastore, 1))
    (kk : ∀ (H1 : Heap) (locs1 : List Loc), va_P D cls (wld adr cA μ (sI ν q i.toNatClampNeg (x &&& 1))) H1 → va_S (AA adr) H0 H1 locs1 → W p l e R s m args below meth c H1 locs1 cells slots Q (F0 m (pc + 1) ls rest)) : W p l e R s m args below meth c H locs cells slots Q (F0 m pc ls (.int x :: .int i :: .ref (adr q) :: rest)) := by
  refine va_zast hx hb hG.1 hP (wld_D hG.2.1) hS q 1 (n := n) (f := ν.1 q) (wld_e hq2 (wc_M hq (hc _ _))) rfl hin hdg (fun H1 locs1 hP1 _ hS1 => kk H1 locs1 ?_ hS1)
  refine (wld_set (q := q) hq2 (sI_M) (wc_M hq ?_)) ▸ hP1
  rw [hc, sI_q]
  rfl
theorem rM_last (hx : p.tables.exec = Jvm.exec) (hb : c.code = cc) (hG : Geo D adr cA s) (hP : va_P D cls (wld adr cA μ ν) H) (hS : va_S (AA adr) H0 H locs) (q n : Nat) (hq : ¬ q < 63) (hq2 : q < 86) (hc : ∀ f g, shM adr cA q f g = .inl (cA 2, n, .inr (.inl g))) {i : Int32} {x : Int64} (hin : vp_in i n) (hdg : decode cc pc = .ok (.lastore, 1))
    (kk : ∀ (H1 : Heap) (locs1 : List Loc), va_P D cls (wld adr cA μ (sJ ν q i.toNatClampNeg x)) H1 → va_S (AA adr) H0 H1 locs1 → W p l e R s m args below meth c H1 locs1 cells slots Q (F0 m (pc + 1) ls rest)) : W p l e R s m args below meth c H locs cells slots Q (F0 m pc ls (.long x :: .int i :: .ref (adr q) :: rest)) := by
  refine va_last hx hb hG.1 hP (wld_D hG.2.1) hS q 2 (n := n) (f := ν.2 q) (wld_e hq2 (wc_M hq (hc _ _))) rfl hin hdg (fun H1 locs1 hP1 _ hS1 => kk H1 locs1 ?_ hS1)
  refine (wld_set (q := q) hq2 (sJ_M) (wc_M hq ?_)) ▸ hP1
  rw [hc, sJ_q]
/-- arraycopy between the places of two strips -/
theorem r_copy (hx : p.tables.exec = Jvm.exec) (hb : c.code = cc) (hml : c.maxLocals = ls.size) (hts : ∀ w ∈ lw_ok, w.before args s = true) (hown : s.vm.findClass own = some m.cls) (hlink : (Cond.methodLink own index arraycopyName).before args s = true) (hG : Geo D adr cA s) (hP : va_P D cls (wld adr cA μ ν) H) (hS : va_S (AA adr) H0 H locs) {r t : Nat} (hr : r < 8) (ht : t < 8) {sp dp n : Int32}
    (hg : ¬ sp < 0 ∧ ¬ dp < 0 ∧ ¬ n < 0 ∧ sp.toNatClampNeg + n.toNatClampNeg ≤ 12 ∧ dp.toNatClampNeg + n.toNatClampNeg ≤ 12) (hnat : (Cond.native arraycopyName).before args s = true) (hstat : (Cond.static arraycopyName).before args s = true) (hini : (Cond.initialized "java/lang/System").before args s = true) (hframes : 1 ≤ R.frames) (hlocals : (rest.map fun v => v.category).sum + (nativeFrameWords "java/lang/System" "arraycopy" 5 + 11) ≤ R.locals) (hdg : decode cc pc = .ok (.invokestatic index, 3))
    (kk : ∀ (H1 : Heap) (locs1 : List Loc), va_P D cls (wld adr cA (sR μ (10 + t) (va_cpy (μ.1 (10 + r)) (μ.1 (10 + t)) sp.toNatClampNeg dp.toNatClampNeg n.toNatClampNeg)) ν) H1 → va_S (AA adr) H0 H1 locs1 → W p l e R s m args below meth c H1 locs1 cells slots Q (F0 m (pc + 3) ls rest)) : W p l e R s m args below meth c H locs cells slots Q (F0 m pc ls (.int n :: .int dp :: .ref (adr (10 + t)) :: .int sp :: .ref (adr (10 + r)) :: rest)) := by
  refine va_copyi hx hb hml hown hlink hnat hstat hini hG.1 hP (wld_D hG.2.1) hS (10 + r) (10 + t) 0 0 (n0 := 12) (n1 := 12) (f := μ.1 (10 + r)) (g := μ.1 (10 + t)) (ty := .int) (wld_e (by omega) (wc_C (by omega) (sh_PL hr))) (wld_e (by omega) (wc_C (by omega) (sh_PL ht))) rfl rfl rfl hg.1 hg.2.1 hg.2.2.1 hg.2.2.2.1 hg.2.2.2.2 (fun _ _ => rfl) hframes hlocals hdg (fun H1 locs1 hP1 _ hS1 => kk H1 locs1 ?_ hS1)
  refine (wld_set (q := 10 + t) (by omega) (sR_C) (wc_C (by omega) ?_)) ▸ hP1
  rw [sh_PL ht, sR_q]
/-- a receiver -/
theorem rc_o {q ci : Nat} {x : vw_C} {fs : List Value} (hG : Geo D adr cA s) (hP : va_P D cls (wld adr cA μ ν) H) (hq : q < 86) (hc : wcell adr cA μ ν q = .inr (ci, fs)) (hi : cls[ci]? = some x) : ∃ cell : Cell, H[adr q]? = some cell ∧ cell.vm.isStatics = false ∧ s.vm.findClass x.1 = some cell.cls := va_recv hG.1 hP hi (wld_e hq hc)
def QI (D : va_G) (adr : Nat → Nat) (cA : Nat → ClassId) (r0 : Int32) (μ ν : Mem) : Array Value → State → Outcome → State → Prop := va_Qi (fun (r : Int32) (u : Mem × Mem) => r = r0 ∧ u = (μ, ν)) (fun u U => Wd D adr cA u.1 u.2 U) (AA adr)
def QL (D : va_G) (adr : Nat → Nat) (cA : Nat → ClassId) (r0 : Int64) (μ ν : Mem) : Array Value → State → Outcome → State → Prop := va_Ql (fun (r : Int64) (u : Mem × Mem) => r = r0 ∧ u = (μ, ν)) (fun u U => Wd D adr cA u.1 u.2 U) (AA adr)
def QV (D : va_G) (adr : Nat → Nat) (cA : Nat → ClassId) (μ ν : Mem) : Array Value → State → Outcome → State → Prop := va_Qv (fun (u : Mem × Mem) => u = (μ, ν)) (fun u U => Wd D adr cA u.1 u.2 U) (AA adr)
def RunI (p : Program) (l : Launch) (e : Env) (R : Room) (s : State) (m : MethodId) (args : Array Value) (below : List Frame) (meth : Method) (c : Code) (H : Heap) (locs : List Loc) (D : va_G) (adr : Nat → Nat) (cA : Nat → ClassId) (r0 : Int32) (μ' ν' : Mem) (av : List Value) (pc : Nat) (ls : Array Slot) (st rest : List Value) : Prop := va_Run p l e R s m args below meth c H locs 0 0 0 0 (F0 m pc ls st) rest (QI D adr cA r0 μ' ν' av.toArray) (AA adr)
theorem ret_i (hx : p.tables.exec = Jvm.exec) (hb : c.code = cc) (hr : meth.sig.returnType = some .int) (hlocks : meth.locks = false) (hG : Geo D adr cA s) {r : Int32} (hdg : decode cc pc = .ok (.ireturn, 1)) (hP : va_P D cls (wld adr cA μ ν) H) (hS : va_S (AA adr) s.heap H locs) : W p l e R s m args below meth c H locs 0 0 (MQ below (QI D adr cA r μ ν) args s 0 0 (AA adr)) (F0 m pc ls [.int r]) :=
  W.iret (v := r) hx hb hr (fun t ht hW => ⟨⟨r, (μ, ν), rfl, ⟨rfl, rfl⟩, by rw [ht]; exact hP, hG.warm hW⟩, hS.F ht⟩) hS.2.2 hdg hlocks
theorem ret_z (hx : p.tables.exec = Jvm.exec) (hb : c.code = cc) (hr : meth.sig.returnType = some .boolean) (hlocks : meth.locks = false) (hG : Geo D adr cA s) {r : Int32} (hz : r &&& 1 = r) (hdg : decode cc pc = .ok (.ireturn, 1)) (hP : va_P D cls (wld adr cA μ ν) H) (hS : va_S (AA adr) s.heap H locs) : W p l e R s m args below meth c H locs 0 0 (MQ below (QI D adr cA r μ ν) args s 0 0 (AA adr)) (F0 m pc ls [.int r]) :=
  W.zret (v := r) hx hb hr (by show Value.int (r &&& 1) = _; rw [hz]) (fun t ht hW => ⟨⟨r, (μ, ν), rfl, ⟨rfl, rfl⟩, by rw [ht]; exact hP, hG.warm hW⟩, hS.F ht⟩) hS.2.2 hdg hlocks
theorem ret_l (hx : p.tables.exec = Jvm.exec) (hb : c.code = cc) (hr : meth.sig.returnType = some .long) (hlocks : meth.locks = false) (hG : Geo D adr cA s) {r : Int64} (hdg : decode cc pc = .ok (.lreturn, 1)) (hP : va_P D cls (wld adr cA μ ν) H) (hS : va_S (AA adr) s.heap H locs) : W p l e R s m args below meth c H locs 0 0 (MQ below (QL D adr cA r μ ν) args s 0 0 (AA adr)) (F0 m pc ls [.long r]) :=
  W.lret (v := r) hx hb hr (fun t ht hW => ⟨⟨r, (μ, ν), rfl, ⟨rfl, rfl⟩, by rw [ht]; exact hP, hG.warm hW⟩, hS.F ht⟩) hS.2.2 hdg hlocks
theorem ret_v (hx : p.tables.exec = Jvm.exec) (hb : c.code = cc) (hr : meth.sig.returnType = none) (hlocks : meth.locks = false) (hG : Geo D adr cA s) (hdg : decode cc pc = .ok (.return_, 1)) (hP : va_P D cls (wld adr cA μ ν) H) (hS : va_S (AA adr) s.heap H locs) : W p l e R s m args below meth c H locs 0 0 (MQ below (QV D adr cA μ ν) args s 0 0 (AA adr)) (F0 m pc ls []) :=
  W.vret hx hb hr (fun t ht hW => ⟨⟨(μ, ν), rfl, rfl, by rw [ht]; exact hP, hG.warm hW⟩, hS.F ht⟩) hS.2.2 hdg hlocks
variable {y : MethodName} {bytes : ByteArray} {maxL nL n : Nat} {ret : Option FieldType} {ws : List Cond} {rm : Room} {C : String} {b : Nat} {As : List Value} {Qc : Array Value → State → Outcome → State → Prop}
theorem kv (S : CallFix p m c cc nL s args lw_ok own) (cw : CallW R s args own C index y bytes maxL ret ws rm 0 0 n) (hM : Met l y ws rm (va_Pc (.ref b :: As) (Wd D adr cA μ ν)) Qc 0 0 (AA adr)) (hG : Geo D adr cA s) (hP : va_P D cls (wld adr cA μ ν) H) (hr : ∃ cell : Cell, H[b]? = some cell ∧ cell.vm.isStatics = false ∧ s.vm.findClass C = some cell.cls)
    (hn : As.length = n) (hsize : ls.size = nL) (hW : (rest.map fun v => v.category).sum ≤ 8) (hdg : decode cc pc = .ok (.invokevirtual index, 3)) : va_Run p l e R s m args below meth c H locs 0 0 0 0 (F0 m pc ls (As.reverse ++ .ref b :: rest)) rest (Qc (Value.ref b :: As).toArray) (AA adr) :=
  va_runV S hM cw ⟨Wd.blind, hr, fun U hU hW => ⟨rfl, by rw [hU]; exact hP, hG.warm hW⟩⟩ rfl hn hsize rfl (lv_room hW) hdg ⟨Nat.zero_le _, Nat.zero_le _⟩
theorem ks (S : CallFix p m c cc nL s args lw_ok own) (cw : CallB R s args own index y bytes maxL ret ws rm 0 0 n ∧ (Cond.static y).before args s = true) (hM : Met l y ws rm (va_Pc As (Wd D adr cA μ ν)) Qc 0 0 (AA adr)) (hG : Geo D adr cA s) (hP : va_P D cls (wld adr cA μ ν) H)
    (hn : As.length = n) (hsize : ls.size = nL) (hW : (rest.map fun v => v.category).sum ≤ 8) (hdg : decode cc pc = .ok (.invokestatic index, 3)) : va_Run p l e R s m args below meth c H locs 0 0 0 0 (F0 m pc ls (As.reverse ++ rest)) rest (Qc As.toArray) (AA adr) :=
  va_runS S hM cw ⟨Wd.blind, fun U hU hW => ⟨rfl, by rw [hU]; exact hP, hG.warm hW⟩⟩ rfl hn hsize rfl (lv_room hW) hdg ⟨Nat.zero_le _, Nat.zero_le _⟩
theorem kn {host : String} (S : CallFix p m c cc nL s args lw_ok own) (cw : va_CN R s args own index y host bytes maxL ret ws rm 0 0 n ∧ (Cond.static y).before args s = true ∧ True) (hM : Met l y ws rm (va_Pc As (Wd D adr cA μ ν)) Qc 0 0 (AA adr)) (hG : Geo D adr cA s) (hP : va_P D cls (wld adr cA μ ν) H)
    (hn : As.length = n) (hsize : ls.size = nL) (hW : (rest.map fun v => v.category).sum ≤ 8) (hdg : decode cc pc = .ok (.invokestatic index, 3)) : va_Run p l e R s m args below meth c H locs 0 0 0 0 (F0 m pc ls (As.reverse ++ rest)) rest (Qc As.toArray) (AA adr) :=
  va_runSN S hM cw ⟨Wd.blind, fun U hU hW => ⟨rfl, by rw [hU]; exact hP, hG.warm hW⟩⟩ rfl hn hsize rfl (lv_room hW) hdg ⟨Nat.zero_le _, Nat.zero_le _⟩
theorem ki {st : List Value} {av : List Value} {r0 : Int32} (hr : va_Run p l e R s m args below meth c H locs 0 0 0 0 (F0 m pc ls st) rest (QI D adr cA r0 μ' ν' av.toArray) (AA adr)) (hS : va_S (AA adr) H0 H locs)
    (kk : ∀ (H1 : Heap) (locs1 : List Loc), va_P D cls (wld adr cA μ' ν') H1 → va_S (AA adr) H0 H1 locs1 → W p l e R s m args below meth c H1 locs1 0 0 Q (F0 m (pc + 3) ls (.int r0 :: rest))) : W p l e R s m args below meth c H locs 0 0 Q (F0 m pc ls st) := by
  refine va_calli hr hS (fun _ _ h => h) (fun _ h => h) (fun r u t H1 locs1 ht hvm hp hB _ _ hS1 => ?_)
  obtain ⟨rfl, rfl⟩ := hp
  exact kk H1 locs1 (by rw [← ht]; exact hB.1) hS1
theorem kl {st : List Value} {av : List Value} {r0 : Int64} (hr : va_Run p l e R s m args below meth c H locs 0 0 0 0 (F0 m pc ls st) rest (QL D adr cA r0 μ' ν' av.toArray) (AA adr)) (hS : va_S (AA adr) H0 H locs)
    (kk : ∀ (H1 : Heap) (locs1 : List Loc), va_P D cls (wld adr cA μ' ν') H1 → va_S (AA adr) H0 H1 locs1 → W p l e R s m args below meth c H1 locs1 0 0 Q (F0 m (pc + 3) ls (.long r0 :: rest))) : W p l e R s m args below meth c H locs 0 0 Q (F0 m pc ls st) := by
  refine va_calll hr hS (fun _ _ h => h) (fun _ h => h) (fun r u t H1 locs1 ht hvm hp hB _ _ hS1 => ?_)
  obtain ⟨rfl, rfl⟩ := hp
  exact kk H1 locs1 (by rw [← ht]; exact hB.1) hS1
theorem kw {st : List Value} {av : List Value} (hr : va_Run p l e R s m args below meth c H locs 0 0 0 0 (F0 m pc ls st) rest (QV D adr cA μ' ν' av.toArray) (AA adr)) (hS : va_S (AA adr) H0 H locs)
    (kk : ∀ (H1 : Heap) (locs1 : List Loc), va_P D cls (wld adr cA μ' ν') H1 → va_S (AA adr) H0 H1 locs1 → W p l e R s m args below meth c H1 locs1 0 0 Q (F0 m (pc + 3) ls rest)) : W p l e R s m args below meth c H locs 0 0 Q (F0 m pc ls st) := by
  refine va_callv hr hS (fun _ _ h => h) (fun _ h => h) (fun u t H1 locs1 ht hvm hp hB _ _ hS1 => ?_)
  have hp : u = (μ', ν') := hp
  subst hp
  exact kk H1 locs1 (by rw [← ht]; exact hB.1) hS1
/-- what holds in a method's body -/
def Cx (cc : ByteArray) (nL : Nat) (own : String) (rt : Option FieldType) (p : Program) (s : State) (m : MethodId) (args : Array Value) (meth : Method) (c : Code) : Prop := p.tables.exec = Jvm.exec ∧ c.code = cc ∧ c.maxLocals = nL ∧ s.vm.findClass own = some m.cls ∧ (∀ w ∈ lw_ok, w.before args s = true) ∧ meth.sig.returnType = rt ∧ meth.locks = false
theorem met_of {av : List Value} (hy : plainName y.cls = true) (ho : y.cls = own) (hlen : (lg_sl av).length ≤ maxL)
    (body : ∀ (p : Program) (e : Env) (s : State) (m : MethodId) (below : List Frame) (meth : Method) (c : Code), Cx bytes maxL own ret p s m av.toArray meth c → Geo D adr cA s → va_P D cls (wld adr cA μ ν) s.heap → va_S (AA adr) s.heap s.heap [] → ∀ ls : Array Slot, lv_has ls maxL (lv_args 0 av) → W p l e rm s m av.toArray below meth c s.heap [] 0 0 (MQ below Qc av.toArray s 0 0 (AA adr)) (F0 m 0 ls [])) :
    Met l y (Cond.code y bytes maxL ret :: lw_ok) rm (va_Pc av (Wd D adr cA μ ν)) Qc 0 0 (AA adr) := by
  refine Met.ofW (cc := bytes) (maxL := maxL) (ret := ret) hy rfl ?_
  intro p e s m args below meth c s₁ B hml hv
  obtain ⟨rfl, hP, hG⟩ := hv
  have hts := atoms_spec (ws := Cond.code y bytes maxL ret :: lw_ok) B.pre
  have hown : s.vm.findClass own = some m.cls := by rw [← ho]; exact findClass_of_methodNamed B.named
  have hl := lv_entry av (n := maxL) hlen
  rw [lg_entry_eq]
  exact body p e s m below meth c ⟨B.exec, B.bytes, hml, hown, fun w hw => hts w (List.mem_cons_of_mem _ hw), B.returns, B.notSynchronized⟩ hG hP va_S.rf _ hl
end ROWS2
