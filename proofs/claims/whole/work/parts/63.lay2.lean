/-! ===== lay: heights, land, neighbours ===== -/
def ldF (ν : Mem) (w n f : Nat) : Bool := decide (f < n) && decide (f % w < ln ν (f / w))
def htF (ν : Mem) (w n f : Nat) : Int32 := if ldF ν w n f = true then ν.1 66 (12 * (f / w) + f % w) else 0
theorem StT.of {μ a ν : Mem} (h : StT μ ν) (e : ∀ q, q < 18 → 0 < q → a.1 q = μ.1 q) : StT a ν := by
  intro r hr
  rw [e (2 + r) (by omega) (by omega), e (10 + r) (by omega) (by omega)]
  exact h r hr
section LAY2
variable {μ ν : Mem} {w h : Nat}
theorem RE_flood (μ : Mem) (w h : Nat) : ∃ a, f_RE_flood μ (nI w) (nI h) = some a ∧ a.1 18 7 = nI w ∧ a.1 18 8 = nI (w * h) ∧ a.1 18 9 = 0 ∧ a.2 18 10 = 0 ∧ (∀ f, f < 64 → a.1 19 f = 0) ∧ (∀ q, q < 18 → a.1 q = μ.1 q) := by
  unfold f_RE_flood
  obtain ⟨v, h1, h2⟩ := lp_0 (fun m a k => f_RE_flood_L24 m a (nI k)) (fun k a => a.1 18 7 = nI w ∧ a.1 18 8 = nI (w * h) ∧ a.1 18 9 = 0 ∧ a.2 18 10 = 0 ∧ (∀ f, f < k → a.1 19 f = 0) ∧ (∀ q, q < 18 → a.1 q = μ.1 q)) (fun a => a.1 18 7 = nI w ∧ a.1 18 8 = nI (w * h) ∧ a.1 18 9 = 0 ∧ a.2 18 10 = 0 ∧ (∀ f, f < 64 → a.1 19 f = 0) ∧ (∀ q, q < 18 → a.1 q = μ.1 q)) 64 (sJ (sI (sI (sI μ 18 7 (nI w)) 18 8 (nI w * nI h)) 18 9 0) 18 10 0) (by decide)
    ⟨by rw [sJ_1, sI_off (by decide), sI_off (by decide), sI_at], by rw [sJ_1, sI_off (by decide), sI_at, pk_mul], by rw [sJ_1, sI_at], by rw [sJ_at], fun f hf => absurd hf (Nat.not_lt_zero f), fun q hq => by rw [sJ_1, sI_ne (by omega), sI_ne (by omega), sI_ne (by omega)]⟩
    (fun m a g => ⟨a, by show f_RE_flood_L24 (m + 1) a (nI 64) = _; rw [f_RE_flood_L24.eq_2, if_pos (by decide)], g⟩)
    (fun m a k hk g => ⟨sI (sI (sI (sI a 19 k 0) 20 k (-5)) 21 k (-5)) 22 k 0, ⟨by rw [sI_ne (by decide), sI_ne (by decide), sI_ne (by decide), sI_ne (by decide)]; exact g.1, by rw [sI_ne (by decide), sI_ne (by decide), sI_ne (by decide), sI_ne (by decide)]; exact g.2.1, by rw [sI_ne (by decide), sI_ne (by decide), sI_ne (by decide), sI_ne (by decide)]; exact g.2.2.1, g.2.2.2.1, fun f hf => by
        rw [sI_ne (by decide), sI_ne (by decide), sI_ne (by decide)]
        by_cases e : f = k
        · subst e; exact sI_at
        · rw [sI_off e]; exact g.2.2.2.2.1 f (by omega), fun q hq => by rw [sI_ne (by omega), sI_ne (by omega), sI_ne (by omega), sI_ne (by omega)]; exact g.2.2.2.2.2 q hq⟩, by
      show f_RE_flood_L24 (m + 1) a (nI k) = f_RE_flood_L24 m _ (nI (k + 1))
      rw [f_RE_flood_L24.eq_2, if_neg (nge 64 (b := 64) rfl hk (by decide))]
      simp only [G_n hk (show 64 < 2147483648 by decide)]
      rw [cl (by omega), nI_1]⟩)
  refine ⟨v, ?_, h2⟩
  rw [show f_RE_flood_L24 FU (sJ (sI (sI (sI μ 18 7 (nI w)) 18 8 (nI w * nI h)) 18 9 0) 18 10 0) 0 = some v from h1]
  rfl
/-- the land and its heights ahead of the place p -/
def LnC (ν : Mem) (w n p : Nat) (μ a : Mem) : Prop := a.1 18 7 = nI w ∧ a.1 18 8 = nI n ∧ a.1 18 9 = 0 ∧ (∀ f, bit (a.2 18 10) f = (decide (f < p) && ldF ν w n f)) ∧ (∀ f, f < 64 → a.1 19 f = if f < p then htF ν w n f else 0) ∧ ∀ q, q < 18 → a.1 q = μ.1 q
theorem LR_layLine (hs : StT μ ν) (hw : 1 ≤ w) (hw8 : w ≤ 8) (hh : h ≤ 8) {r : Nat} (hr : r < h) {a : Mem} (ha : LnC ν w (w * h) (w * r) μ a) : ∃ a', f_LR_layLine a (nI r) (nI w) = some a' ∧ LnC ν w (w * h) (w * (r + 1)) μ a' := by
  have hwh : w * r + w ≤ w * h := by
    have := Nat.mul_le_mul_left w (show r + 1 ≤ h from hr)
    rw [Nat.mul_add, Nat.mul_one] at this
    exact this
  have h64 : w * h ≤ 64 := Nat.le_trans (Nat.mul_le_mul hw8 hh) (by decide)
  unfold f_LR_layLine
  obtain ⟨v, h1, h2⟩ := lp_0 (fun m a c => f_LR_layLine_L2 (nI r) (nI w) m a (nI c)) (fun c a => LnC ν w (w * h) (w * r + c) μ a) (fun a => LnC ν w (w * h) (w * (r + 1)) μ a) w a (by omega) ha
    (fun m a g => ⟨a, by show f_LR_layLine_L2 (nI r) (nI w) (m + 1) a (nI w) = _; rw [f_LR_layLine_L2.eq_2, if_pos (Int32.le_refl _)], by rw [Nat.mul_add, Nat.mul_one]; exact g⟩)
    (fun m a c hc g => by
      have hsa : StT a ν := hs.of (fun q h1 _ => g.2.2.2.2.2 q h1)
      have hr8 : r < 8 := by omega
      have hl := ln_of hsa hr8
      have ed : (w * r + c) / w = r := by rw [Nat.mul_add_div (by omega), Nat.div_eq_of_lt hc]; omega
      have em : (w * r + c) % w = c := by rw [Nat.mul_add_mod, Nat.mod_eq_of_lt hc]
      have elt : w * r + c < w * h := by omega
      have eld : ldF ν w (w * h) (w * r + c) = decide (c < ln ν r) := by
        unfold ldF
        rw [ed, em]
        simp [elt]
      show ∃ a', LnC ν w (w * h) (w * r + (c + 1)) μ a' ∧ f_LR_layLine_L2 (nI r) (nI w) (m + 1) a (nI c) = f_LR_layLine_L2 (nI r) (nI w) m a' (nI (c + 1))
      rw [f_LR_layLine_L2.eq_2, if_neg (nI_ge hc (by omega)), nI_1]
      simp only [G_n hr8 (show 8 < 2147483648 by decide)]
      rw [cl (by omega), ST_place hsa hr8 c (by omega)]
      by_cases q : c < ln ν r
      · rw [if_pos q, if_neg (by decide), G_n (by omega) (by decide), cl (by omega), pk_mul, nI_add]
        unfold f_RE_raiseLand
        rw [G_n (by omega) (by decide), cl (by omega)]
        simp only [Option.bind_some]
        refine ⟨_, ⟨?_, ?_, ?_, ?_, ?_, ?_⟩, rfl⟩
        · rw [sJ_1, sI_ne (by decide)]; exact g.1
        · rw [sJ_1, sI_ne (by decide)]; exact g.2.1
        · rw [sJ_1, sI_ne (by decide)]; exact g.2.2.1
        · intro f
          rw [sJ_at, sI_2, bit_or, g.2.2.2.1 f, bit_only (by omega)]
          by_cases e : f = w * r + c
          · subst e
            rw [eld]
            simp [q]
          · have : decide (f < w * r + (c + 1)) = decide (f < w * r + c) := by
              apply decide_eq_decide.mpr
              omega
            rw [this]
            simp [e]
        · intro f hf
          rw [sJ_1]
          by_cases e : f = w * r + c
          · subst e
            rw [sI_at, if_pos (by omega)]
            unfold htF
            rw [eld, if_pos (by simp [q]), ed, em]
            exact (hsa r hr8).2.2.2.2.2 c (by omega)
          · rw [sI_off e, g.2.2.2.2.1 f hf]
            by_cases e2 : f < w * r + c
            · rw [if_pos e2, if_pos (by omega)]
            · rw [if_neg e2, if_neg (by omega)]
        · intro q2 hq2
          rw [sJ_1, sI_ne (by omega)]
          exact g.2.2.2.2.2 q2 hq2
      · rw [if_neg q, if_pos rfl]
        simp only [Option.bind_some]
        refine ⟨a, ⟨g.1, g.2.1, g.2.2.1, ?_, ?_, g.2.2.2.2.2⟩, rfl⟩
        · intro f
          rw [g.2.2.2.1 f]
          by_cases e : f = w * r + c
          · subst e
            rw [eld]
            simp [q]
          · have : decide (f < w * r + (c + 1)) = decide (f < w * r + c) := by
              apply decide_eq_decide.mpr
              omega
            rw [this]
        · intro f hf
          rw [g.2.2.2.2.1 f hf]
          by_cases e : f = w * r + c
          · subst e
            rw [if_neg (by omega), if_pos (by omega)]
            unfold htF
            rw [eld, if_neg (by simp [q])]
          · by_cases e2 : f < w * r + c
            · rw [if_pos e2, if_pos (by omega)]
            · rw [if_neg e2, if_neg (by omega)])
  refine ⟨v, ?_, h2⟩
  rw [show f_LR_layLine_L2 (nI r) (nI w) FU a 0 = some v from h1]
  rfl
theorem LR_lines (hs : StT μ ν) (hw : 1 ≤ w) (hw8 : w ≤ 8) (hh : h ≤ 8) {a : Mem} (ha : LnC ν w (w * h) 0 μ a) : ∃ a', f_LR_lay_L44 (nI w) (nI h) FU a 0 = some a' ∧ LnC ν w (w * h) (w * h) μ a' := by
  exact lp_0 (fun m a r => f_LR_lay_L44 (nI w) (nI h) m a (nI r)) (fun r a => LnC ν w (w * h) (w * r) μ a) (fun a => LnC ν w (w * h) (w * h) μ a) h a (by omega) ha
    (fun m a g => ⟨a, by show f_LR_lay_L44 (nI w) (nI h) (m + 1) a (nI h) = _; rw [f_LR_lay_L44.eq_2, if_pos (Int32.le_refl _)], g⟩)
    (fun m a r hr g => by
      obtain ⟨a', p1, p2⟩ := LR_layLine hs hw hw8 hh hr g
      refine ⟨a', p2, ?_⟩
      show f_LR_lay_L44 (nI w) (nI h) (m + 1) a (nI r) = f_LR_lay_L44 (nI w) (nI h) m a' (nI (r + 1))
      rw [f_LR_lay_L44.eq_2, if_neg (nI_ge hr (by omega)), p1, nI_1]
      rfl)
theorem ldF_sz (ν : Mem) (hw : 1 ≤ w) (hw8 : w ≤ 8) (h1 : 1 ≤ h) (hh : h ≤ 8) : Sz w (w * h) (ldF ν w (w * h)) := by
  refine ⟨hw, hw8, Nat.le_trans (Nat.mul_le_mul hw8 hh) (by decide), ⟨h, h1, hh, rfl⟩, fun g hg => ?_⟩
  unfold ldF at hg
  simp only [Bool.and_eq_true, decide_eq_true_eq] at hg
  exact hg.1
theorem LnC_ReC {a : Mem} {n : Nat} (hz : Sz w n (ldF ν w n)) (g : LnC ν w n n μ a) : ReC w n (ldF ν w n) (htF ν w n) a := by
  refine ⟨g.1, g.2.1, fun f => ?_, fun f hf => ?_⟩
  · rw [g.2.2.2.1 f]
    cases e : ldF ν w n f with
    | false => rw [Bool.and_false]
    | true =>
      have := hz.2.2.2.2 f e
      simp [this]
  · have := hz.2.2.1
    rw [g.2.2.2.2.1 f (by omega), if_pos hf]
end LAY2
section NBS
variable {w n : Nat} {ld : Nat → Bool} {ht : Nat → Int32} {μ ν : Mem}
theorem ReC.of {a : Mem} (h : ReC w n ld ht μ) (e1 : a.1 18 7 = μ.1 18 7) (e2 : a.1 18 8 = μ.1 18 8) (e3 : a.2 18 10 = μ.2 18 10) (e4 : a.1 19 = μ.1 19) : ReC w n ld ht a := by
  refine ⟨by rw [e1]; exact h.1, by rw [e2]; exact h.2.1, fun f => by rw [e3]; exact h.2.2.1 f, fun f hf => by rw [e4]; exact h.2.2.2 f hf⟩
theorem RE_landOrSea (hz : Sz w n ld) (h : ReC w n ld ht μ) {g : Nat} (hg : g < n) : f_RE_landOrSea μ (nI g) = enc (if ld g = true then some g else none) := by
  unfold f_RE_landOrSea
  rw [RE_isLand hz h hg]
  by_cases c : ld g = true
  · rw [if_pos c, if_neg (by decide), if_pos c]; rfl
  · rw [if_neg c, if_pos rfl, if_neg c]; rfl
theorem RE_landOrSea_no (hz : Sz w n ld) (h : ReC w n ld ht μ) {x : Int32} (hx : ¬ (0 ≤ x.toInt ∧ x.toInt < n)) : f_RE_landOrSea μ x = -5 := by
  unfold f_RE_landOrSea
  rw [RE_isLand_no hz h hx, if_pos rfl]
theorem nb_0 (hz : Sz w n ld) (h : ReC w n ld ht μ) {f : Nat} (hf : f < n) : f_RE_landOrSea μ (nI f - nI w) = enc (nbr w n ld f 0) := by
  have := hz.2.2.1
  have := hz.2.1
  unfold nbr gnb
  rw [if_pos rfl]
  by_cases c : w ≤ f
  · rw [if_pos c, pk_sub c, RE_landOrSea hz h (by omega)]
  · rw [if_neg c, RE_landOrSea_no hz h (by rw [pk_sub_toInt (by omega) (by omega)]; omega)]
    rfl
theorem nb_3 (hz : Sz w n ld) (h : ReC w n ld ht μ) {f : Nat} (hf : f < n) : f_RE_landOrSea μ (nI f + nI w) = enc (nbr w n ld f 3) := by
  have := hz.2.2.1
  have := hz.2.1
  unfold nbr gnb
  rw [if_neg (by decide), if_neg (by decide), if_neg (by decide), nI_add]
  by_cases c : f + w < n
  · rw [if_pos c, RE_landOrSea hz h c]
  · rw [if_neg c, RE_landOrSea_no hz h (by rw [nI_toInt (by omega)]; omega)]
    rfl
theorem RE_findNeighbours (hz : Sz w n ld) (h : ReC w n ld ht μ) : ∃ a, f_RE_findNeighbours μ = some a ∧ ReC w n ld ht a ∧ NbC w n ld a ∧ (∀ q, q ≠ 24 → a.1 q = μ.1 q) ∧ a.2 = μ.2 := by
  obtain ⟨z1, z2, z3, z4, z5⟩ := id hz
  unfold f_RE_findNeighbours
  obtain ⟨v, h1, h2⟩ := lp_0 (fun m a k => f_RE_findNeighbours_L2 m a (nI k)) (fun k a => (∀ f, f < k → ∀ j, j < 4 → a.1 24 (4 * f + j) = enc (nbr w n ld f j)) ∧ (∀ q, q ≠ 24 → a.1 q = μ.1 q) ∧ a.2 = μ.2) (fun a => NbC w n ld a ∧ (∀ q, q ≠ 24 → a.1 q = μ.1 q) ∧ a.2 = μ.2) n μ (by omega)
    ⟨fun f hf => absurd hf (Nat.not_lt_zero f), fun _ _ => rfl, rfl⟩
    (fun m a g => ⟨a, by
      show f_RE_findNeighbours_L2 (m + 1) a (nI n) = _
      rw [f_RE_findNeighbours_L2.eq_2, g.2.1 18 (by decide), h.2.1, if_pos (Int32.le_refl _)], g⟩)
    (fun m a f hf g => by
      have rc : ∀ b : Mem, (∀ q, q ≠ 24 → b.1 q = μ.1 q) → b.2 = μ.2 → ReC w n ld ht b := fun b e1 e2 => h.of (by rw [e1 18 (by decide)]) (by rw [e1 18 (by decide)]) (by rw [e2]) (e1 19 (by decide))
      have hw0 : ¬ nI w ≤ 0 := nI_nle (by omega) (by omega)
      have hm : f % w < w := Nat.mod_lt f (by omega)
      show ∃ a', _ ∧ f_RE_findNeighbours_L2 (m + 1) a (nI f) = f_RE_findNeighbours_L2 m a' (nI (f + 1))
      rw [f_RE_findNeighbours_L2.eq_2]
      simp only [sI_ne (show (18 : Nat) ≠ 24 by decide)]
      rw [g.2.1 18 (by decide), h.1, h.2.1, if_neg (nI_ge hf (by omega)), if_neg hw0]
      unfold Zg
      rw [if_neg (nI_ne0 (by omega) (by omega)), pk_rem (by omega) (by omega) (by omega), nb_0 hz (rc a g.2.1 g.2.2) hf]
      simp only [Option.bind_some]
      have i0 : (4 * nI f : Int32) = nI (4 * f) := by show nI 4 * nI f = _; rw [pk_mul]
      have i1 : (nI (4 * f) + 1 : Int32) = nI (4 * f + 1) := nI_1 _
      have i2 : (nI (4 * f) + 2 : Int32) = nI (4 * f + 2) := by show nI (4 * f) + nI 2 = _; rw [nI_add]
      have i3 : (nI (4 * f) + 3 : Int32) = nI (4 * f + 3) := by show nI (4 * f) + nI 3 = _; rw [nI_add]
      rw [i0, i1, i2, i3, G_n (by omega) (by decide), cl (by omega), cl (by omega), cl (by omega), cl (by omega)]
      have n1 : ∀ b : Mem, ReC w n ld ht b → (if nI (f % w) ≤ 0 then some (-5) else some (f_RE_landOrSea b (nI f - 1))) = some (enc (nbr w n ld f 1)) := by
        intro b hb
        unfold nbr gnb
        rw [if_neg (show ¬ (1 : Nat) = 0 by decide), if_pos (show (1 : Nat) = 1 from rfl)]
        by_cases c : 0 < f % w
        · have : f % w ≤ f := Nat.mod_le f w
          rw [if_neg (nI_nle c (by omega)), if_pos c, show (1 : Int32) = nI 1 from rfl, pk_sub (by omega), RE_landOrSea hz hb (by omega)]
        · rw [if_neg c, if_pos (by rw [show f % w = 0 by omega]; decide)]
          rfl
      have n2 : ∀ b : Mem, ReC w n ld ht b → (if nI w - 1 ≤ nI (f % w) then some (-5) else some (f_RE_landOrSea b (nI f + 1))) = some (enc (nbr w n ld f 2)) := by
        intro b hb
        unfold nbr gnb
        rw [if_neg (show ¬ (2 : Nat) = 0 by decide), if_neg (show ¬ (2 : Nat) = 1 by decide), if_pos (show (2 : Nat) = 2 from rfl), show (1 : Int32) = nI 1 from rfl, pk_sub (by omega)]
        by_cases c : f % w + 1 < w
        · obtain ⟨hh, -, -, en⟩ := z4
          have lt : f + 1 < n := (gnb_lt (k := 2) z1 ⟨hh, en⟩ hf (by unfold gnb; rw [if_neg (by decide), if_neg (by decide), if_pos rfl, if_pos c])).1
          rw [if_neg (nI_ge (by omega) (by omega)), if_pos c, nI_add, RE_landOrSea hz hb lt]
        · rw [if_neg c, if_pos (nI_le (by omega) (by omega))]
          rfl
      have r1 : ReC w n ld ht (sI a 24 (4 * f) (enc (nbr w n ld f 0))) := rc _ (fun q hq => by rw [sI_ne hq]; exact g.2.1 q hq) (by rw [sI_2]; exact g.2.2)
      rw [n1 _ r1]
      simp only [Option.bind_some]
      have r2 : ReC w n ld ht (sI (sI a 24 (4 * f) (enc (nbr w n ld f 0))) 24 (4 * f + 1) (enc (nbr w n ld f 1))) := rc _ (fun q hq => by rw [sI_ne hq, sI_ne hq]; exact g.2.1 q hq) (by rw [sI_2]; exact g.2.2)
      rw [G_n (by omega) (by decide), n2 _ r2]
      simp only [Option.bind_some]
      have r3 : ReC w n ld ht (sI (sI (sI a 24 (4 * f) (enc (nbr w n ld f 0))) 24 (4 * f + 1) (enc (nbr w n ld f 1))) 24 (4 * f + 2) (enc (nbr w n ld f 2))) := rc _ (fun q hq => by rw [sI_ne hq, sI_ne hq, sI_ne hq]; exact g.2.1 q hq) (by rw [sI_2]; exact g.2.2)
      rw [G_n (by omega) (by decide), G_n (by omega) (by decide), nb_3 hz r3 hf, nI_1]
      refine ⟨_, ?_, rfl⟩
      refine ⟨fun f' hf' j hj => ?_, fun q hq => by rw [sI_ne hq, sI_ne hq, sI_ne hq, sI_ne hq]; exact g.2.1 q hq, g.2.2⟩
      by_cases e : f' = f
      · subst e
        rcases (show j = 0 ∨ j = 1 ∨ j = 2 ∨ j = 3 by omega) with rfl | rfl | rfl | rfl
        · rw [sI_off (by omega), sI_off (by omega), sI_off (by omega), Nat.add_zero, sI_at]
        · rw [sI_off (by omega), sI_off (by omega), sI_at]
        · rw [sI_off (by omega), sI_at]
        · rw [sI_at]
      · rw [sI_off (by omega), sI_off (by omega), sI_off (by omega), sI_off (by omega)]
        exact g.1 f' (by omega) j hj)
  refine ⟨v, ?_, h.of (by rw [h2.2.1 18 (by decide)]) (by rw [h2.2.1 18 (by decide)]) (by rw [h2.2.2]) (h2.2.1 19 (by decide)), h2.1, h2.2.1, h2.2.2⟩
  rw [show f_RE_findNeighbours_L2 FU μ 0 = some v from h1]
  rfl
end NBS
