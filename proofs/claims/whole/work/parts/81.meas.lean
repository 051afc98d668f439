/-! ===== what lakes hold; the lakes that are there at first ===== -/
def rmF (F : Nat → Bool) (ht : Nat → Int32) (v : Int32) : Nat → Int32
  | 0 => 0
  | k + 1 => rmF F ht v k + (if F k = true then (if v ≤ ht k then 0 else v - ht k) else 0)
def moF (n : Nat) (ht : Nat → Int32) (σ : qLS) (l : Nat) : Int32 := rmF (qF σ l) ht (ht (qM σ l).toNatClampNeg) n
def LkC (σ : qLS) (mo : Nat → Int32) (th : Nat → Bool) (wa : Nat → Int32) (μ : Mem) : Prop := μ.1 26 1 = nI (qN σ) ∧ ∀ l, l < qN σ → (∀ g, bit (μ.2 (28 + l) 0) g = qF σ l g) ∧ μ.1 (28 + l) 1 = qM σ l ∧ μ.1 (28 + l) 2 = qW σ l ∧ μ.1 (28 + l) 3 = qA σ l ∧ μ.1 (28 + l) 4 = qB σ l ∧ μ.1 (28 + l) 5 = mo l ∧ μ.1 (28 + l) 6 = (if th l = true then 1 else 0) ∧ μ.1 (28 + l) 7 = wa l
def LkM (σ : qLS) (th : Nat → Bool) (wa : Nat → Int32) (ν : Mem) : Prop := ν.1 63 11 = nI (qN σ) ∧ ∀ l, l < qN σ → (∀ g, bit (ν.2 73 l) g = qF σ l g) ∧ ν.1 74 l = qM σ l ∧ ν.1 75 l = qW σ l ∧ ν.1 76 l = qA σ l ∧ ν.1 77 l = qB σ l ∧ ν.1 72 l = (if qA σ l = -3 then 0 else 1) ∧ ν.1 78 l = (if th l = true then 1 else 0) ∧ ν.1 79 l = wa l
section MEAS
variable {w n : Nat} {ld : Nat → Bool} {ht : Nat → Int32} {dn : Nat → Int32} {σ : qLS} {th : Nat → Bool} {wa mo : Nat → Int32} {μ ν : Mem}
theorem RE_roomBelow (hn : n ≤ 64) (h : ReC w n ld ht μ) (s : Int64) (v : Int32) : f_RE_roomBelow μ s v = some (rmF (bit s) ht v n) := by
  unfold f_RE_roomBelow
  obtain ⟨x, h1, h2⟩ := lp_0 (fun i a k => f_RE_roomBelow_L6 μ s v i a (nI k)) (fun k a => a = rmF (bit s) ht v k) (fun a => a = rmF (bit s) ht v n) n 0 (by omega) rfl
    (fun i a g => ⟨a, by
      show f_RE_roomBelow_L6 μ s v (i + 1) a (nI n) = _
      rw [f_RE_roomBelow_L6.eq_2, h.2.1, if_pos (Int32.le_refl _)], g⟩)
    (fun i a k hk g => by
      subst g
      refine ⟨rmF (bit s) ht v (k + 1), rfl, ?_⟩
      show f_RE_roomBelow_L6 μ s v (i + 1) (rmF (bit s) ht v k) (nI k) = f_RE_roomBelow_L6 μ s v i (rmF (bit s) ht v k + (if bit s k = true then (if v ≤ ht k then 0 else v - ht k) else 0)) (nI (k + 1))
      rw [f_RE_roomBelow_L6.eq_2, h.2.1, if_neg (nI_ge hk (by omega)), isIn_eq _ (by omega), nI_1]
      simp only [G_n (show k < 64 by omega) (show 64 < 2147483648 by decide)]
      rw [cl (by omega), h.2.2.2 k hk]
      by_cases c : bit s k = true
      · rw [if_pos c, if_pos c, if_neg (by decide)]
        by_cases c2 : v ≤ ht k
        · rw [if_pos c2, if_pos c2, Int32.add_zero]; rfl
        · rw [if_neg c2, if_neg c2]; rfl
      · rw [if_neg c, if_neg c, if_pos rfl, Int32.add_zero]; rfl)
  rw [show f_RE_roomBelow_L6 μ s v FU 0 0 = some x from h1, h2]
  rfl
theorem MO_isOf {l g : Nat} (hl : l < 64) (hg : g < 64) : f_MO_isOf ν (nI l) (nI g) = some (if bit (ν.2 73 l) g = true then 1 else 0) := by
  unfold f_MO_isOf
  rw [G_n hl (by decide), cl (by omega)]
  by_cases c : bit (ν.2 73 l) g = true
  · rw [if_pos ((isOf_bit _ hg).mpr c), if_pos c]
  · rw [if_neg (fun q => c ((isOf_bit _ hg).mp q)), if_neg c]
theorem MO_holdsTo (hn : n ≤ 64) (h : ReM w n ld ht ν) {l : Nat} (hl : l < 64) (v : Int32) : f_MO_holdsTo ν (nI l) v = some (rmF (bit (ν.2 73 l)) ht v n) := by
  unfold f_MO_holdsTo
  obtain ⟨x, h1, h2⟩ := lp_0 (fun i a k => f_MO_holdsTo_L5 ν (nI l) v i a (nI k)) (fun k a => a = rmF (bit (ν.2 73 l)) ht v k) (fun a => a = rmF (bit (ν.2 73 l)) ht v n) n 0 (by omega) rfl
    (fun i a g => ⟨a, by
      show f_MO_holdsTo_L5 ν (nI l) v (i + 1) a (nI n) = _
      rw [f_MO_holdsTo_L5.eq_2, h.2.1, if_pos (Int32.le_refl _)], g⟩)
    (fun i a k hk g => by
      subst g
      refine ⟨rmF (bit (ν.2 73 l)) ht v (k + 1), rfl, ?_⟩
      show f_MO_holdsTo_L5 ν (nI l) v (i + 1) (rmF (bit (ν.2 73 l)) ht v k) (nI k) = f_MO_holdsTo_L5 ν (nI l) v i (rmF (bit (ν.2 73 l)) ht v k + (if bit (ν.2 73 l) k = true then (if v ≤ ht k then 0 else v - ht k) else 0)) (nI (k + 1))
      rw [f_MO_holdsTo_L5.eq_2, h.2.1, if_neg (nI_ge hk (by omega)), MO_isOf hl (by omega), nI_1]
      simp only [Option.bind_some, G_n (show k < 64 by omega) (show 64 < 2147483648 by decide)]
      rw [cl (by omega), h.2.2.2 k hk]
      by_cases c : bit (ν.2 73 l) k = true
      · rw [if_pos c, if_pos c, if_neg (by decide)]
        by_cases c2 : v ≤ ht k
        · rw [if_pos c2, if_pos c2]; rfl
        · rw [if_neg c2, if_neg c2]; rfl
      · rw [if_neg c, if_neg c, if_pos rfl]; rfl)
  rw [show f_MO_holdsTo_L5 ν (nI l) v FU 0 0 = some x from h1, h2]
  rfl
theorem LkM.room (hn : n ≤ 64) (h : ReM w n ld ht ν) (hL : LkM σ th wa ν) (hN : qN σ ≤ 35) {l : Nat} (hl : l < qN σ) (v : Int32) : f_MO_holdsTo ν (nI l) v = some (rmF (qF σ l) ht v n) := by
  rw [MO_holdsTo hn h (by omega), show bit (ν.2 73 l) = qF σ l from funext (hL.2 l hl).1]
theorem LkC.room (hn : n ≤ 64) (h : ReC w n ld ht μ) (hL : LkC σ mo th wa μ) {l : Nat} (hl : l < qN σ) (v : Int32) : f_RE_roomBelow μ (μ.2 (28 + l) 0) v = some (rmF (qF σ l) ht v n) := by
  rw [RE_roomBelow hn h, show bit (μ.2 (28 + l) 0) = qF σ l from funext (hL.2 l hl).1]
/-- at the end each lake has a rim on land -/
theorem q_rim (hz : Sz w n ld) (hI : qInv w n ld dn σ ld) {l : Nat} (hl : l < qN σ) : ∃ r, qM σ l = nI r ∧ r < n ∧ ld r = true := by
  rcases hI.2.2.1 l hl with c | ⟨-, r, c1, c2, c3⟩ | ⟨m, o, r, -, -, -, -, -, -, -, c8, c9, c10, -⟩
  · exact absurd c.1 (no_top hz hI l hl)
  · exact ⟨r, c1, c2, c3⟩
  · exact ⟨r, c8, c9, c10⟩
theorem LkM.most (hz : Sz w n ld) (hI : qInv w n ld dn σ ld) (h : ReM w n ld ht ν) (hL : LkM σ th wa ν) (hN : qN σ ≤ 35) {l : Nat} (hl : l < qN σ) : f_MO_most ν (nI l) = some (moF n ht σ l) := by
  have hn := hz.2.2.1
  obtain ⟨r, r1, r2, r3⟩ := q_rim hz hI hl
  unfold f_MO_most moF
  rw [G_n (by omega) (by decide), cl (by omega), (hL.2 l hl).2.1, r1, G_n (by omega) (by decide), cl (by omega), h.2.2.2 r r2, hL.room hn h hN hl]
  rfl
/-! the class measures -/
theorem LK_measure (hz : Sz w n ld) (hI : qInv w n ld dn σ ld) (h : ReC w n ld ht μ) (hL : LkC σ mo th (fun _ => 0) μ) {k : Nat} (hk : k < qN σ) (hk0 : th k = false) : ∃ a, f_LK_measure μ k = some a ∧ LkC σ (fun l => if l = k then moF n ht σ k else mo l) (fun l => if l = k then decide (qA σ k = -3) else th l) (fun _ => 0) a ∧ (∀ q, q < 28 → a.1 q = μ.1 q) ∧ a.2 = μ.2 := by
  have hn := hz.2.2.1
  obtain ⟨r, r1, r2, r3⟩ := q_rim hz hI hk
  obtain ⟨k1, k2, k3, k4, k5, k6, k7, k8⟩ := hL.2 k hk
  unfold f_LK_measure
  rw [k2, r1, RE_isLand hz h r2, if_pos r3, if_neg (by decide), G_n (by omega) (by decide), cl (by omega), h.2.2.2 r r2, hL.room hn h hk]
  simp only [Option.bind_some]
  have em : rmF (qF σ k) ht (ht r) n = moF n ht σ k := by unfold moF; rw [r1, cl (by omega)]
  rw [em]
  unfold f_LA_isDouble
  rw [sI_off (by decide), k4]
  by_cases c : qA σ k = -3
  · rw [if_pos c, if_pos rfl]
    unfold f_LA_appear
    refine ⟨_, rfl, ⟨?_, ?_⟩, ?_, rfl⟩
    · rw [sI_ne (by omega), sI_ne (by omega), sI_ne (by omega)]; exact hL.1
    · intro l hl
      by_cases e : l = k
      · subst e
        simp only [if_true]
        rw [sI_2, sI_2, sI_2]
        refine ⟨k1, ?_, ?_, ?_, ?_, ?_, ?_, ?_⟩
        · rw [sI_off (by decide), sI_off (by decide), sI_off (by decide)]; exact k2
        · rw [sI_off (by decide), sI_off (by decide), sI_off (by decide)]; exact k3
        · rw [sI_off (by decide), sI_off (by decide), sI_off (by decide)]; exact k4
        · rw [sI_off (by decide), sI_off (by decide), sI_off (by decide)]; exact k5
        · rw [sI_off (by decide), sI_off (by decide), sI_at]
        · rw [sI_off (by decide), sI_at, if_pos (by simp [c])]
        · rw [sI_at]
      · simp only [if_neg e]
        rw [sI_2, sI_2, sI_2, sI_ne (by omega), sI_ne (by omega), sI_ne (by omega)]
        exact hL.2 l hl
    · intro q hq
      rw [sI_ne (by omega), sI_ne (by omega), sI_ne (by omega)]
  · rw [if_neg c, if_neg (by decide)]
    refine ⟨_, rfl, ⟨?_, ?_⟩, ?_, rfl⟩
    · rw [sI_ne (by omega)]; exact hL.1
    · intro l hl
      by_cases e : l = k
      · subst e
        simp only [if_true]
        rw [sI_2]
        refine ⟨k1, ?_, ?_, ?_, ?_, ?_, ?_, ?_⟩
        · rw [sI_off (by decide)]; exact k2
        · rw [sI_off (by decide)]; exact k3
        · rw [sI_off (by decide)]; exact k4
        · rw [sI_off (by decide)]; exact k5
        · rw [sI_at]
        · rw [sI_off (by decide), k7, hk0]; simp [c]
        · rw [sI_off (by decide)]; exact k8
      · simp only [if_neg e]
        rw [sI_2, sI_ne (by omega)]
        exact hL.2 l hl
    · intro q hq
      rw [sI_ne (by omega)]
theorem LkC.cong {mo' : Nat → Int32} {th' : Nat → Bool} {wa' : Nat → Int32} (h : LkC σ mo th wa μ) (h1 : ∀ l, l < qN σ → mo l = mo' l) (h2 : ∀ l, l < qN σ → th l = th' l) (h3 : ∀ l, l < qN σ → wa l = wa' l) : LkC σ mo' th' wa' μ := by
  refine ⟨h.1, fun l hl => ?_⟩
  rw [← h1 l hl, ← h2 l hl, ← h3 l hl]
  exact h.2 l hl
theorem LK_measures (hz : Sz w n ld) (hI : qInv w n ld dn σ ld) (h : ReC w n ld ht μ) (hR : qRC μ σ) (hN : qN σ ≤ 35) : ∃ a, f_LK_come_L54 FU μ 0 = some a ∧ LkC σ (moF n ht σ) (fun l => decide (qA σ l = -3)) (fun _ => 0) a ∧ (∀ q, q < 28 → a.1 q = μ.1 q) ∧ a.2 = μ.2 := by
  refine lp_0 (fun i a k => f_LK_come_L54 i a (nI k)) (fun k a => LkC σ (fun l => if l < k then moF n ht σ l else 0) (fun l => decide (l < k) && decide (qA σ l = -3)) (fun _ => 0) a ∧ (∀ q, q < 28 → a.1 q = μ.1 q) ∧ a.2 = μ.2) _ (qN σ) μ (by omega)
    ⟨⟨hR.1, fun l hl => ?_⟩, fun _ _ => rfl, rfl⟩
    (fun i a g => ⟨a, by
      show f_LK_come_L54 (i + 1) a (nI (qN σ)) = _
      rw [f_LK_come_L54.eq_2, g.1.1, if_pos (Int32.le_refl _)], g.1.cong (fun l hl => by rw [if_pos hl]) (fun l hl => by simp [hl]) (fun _ _ => rfl), g.2⟩)
    (fun i a k hk g => by
      obtain ⟨g1, g2, g3⟩ := g
      have ra : ReC w n ld ht a := h.of (by rw [g2 18 (by decide)]) (by rw [g2 18 (by decide)]) (by rw [g3]) (g2 19 (by decide))
      obtain ⟨b, b1, b2, b3, b4⟩ := LK_measure hz hI ra g1 hk (by simp)
      refine ⟨b, ⟨b2.cong (fun l hl => ?_) (fun l hl => ?_) (fun _ _ => rfl), fun q hq => (b3 q hq).trans (g2 q hq), b4.trans g3⟩, ?_⟩
      · by_cases e : l = k
        · subst e; rw [if_pos rfl, if_pos (by omega)]
        · rw [if_neg e]
          by_cases e2 : l < k
          · rw [if_pos e2, if_pos (by omega)]
          · rw [if_neg e2, if_neg (by omega)]
      · by_cases e : l = k
        · subst e; rw [if_pos rfl]; simp
        · rw [if_neg e]
          have : decide (l < k + 1) = decide (l < k) := by apply decide_eq_decide.mpr; omega
          rw [this]
      · show f_LK_come_L54 (i + 1) a (nI k) = f_LK_come_L54 i b (nI (k + 1))
        rw [f_LK_come_L54.eq_2, g1.1, if_neg (nI_ge hk (by omega)), G_n (by omega) (by decide), cl (by omega), b1, nI_1]
        rfl)
  obtain ⟨q1, q2, q3, q4, q5, q6, q7, q8⟩ := hR.2.2 l hl
  exact ⟨q1, q2, q3, q4, q5, by rw [q6]; simp, by rw [q7]; simp, q8⟩
theorem LkM.cong {th' : Nat → Bool} {wa' : Nat → Int32} (h : LkM σ th wa ν) (h2 : ∀ l, l < qN σ → th l = th' l) (h3 : ∀ l, l < qN σ → wa l = wa' l) : LkM σ th' wa' ν := by
  refine ⟨h.1, fun l hl => ?_⟩
  rw [← h2 l hl, ← h3 l hl]
  exact h.2 l hl
theorem MO_theres {U : Nat → Bool} (hR : qRM n ν σ U) (hN : qN σ ≤ 35) : ∃ a, f_MO_layLakes_L119 FU ν 0 = some a ∧ LkM σ (fun l => decide (qA σ l = -3)) (fun _ => 0) a ∧ (∀ q, q ≠ 78 → a.1 q = ν.1 q) ∧ a.2 = ν.2 := by
  refine lp_0 (fun i a k => f_MO_layLakes_L119 i a (nI k)) (fun k a => LkM σ (fun l => decide (l < k) && decide (qA σ l = -3)) (fun _ => 0) a ∧ (∀ q, q ≠ 78 → a.1 q = ν.1 q) ∧ a.2 = ν.2) _ (qN σ) ν (by omega)
    ⟨⟨hR.1, fun l hl => ?_⟩, fun _ _ => rfl, rfl⟩
    (fun i a g => ⟨a, by
      show f_MO_layLakes_L119 (i + 1) a (nI (qN σ)) = _
      rw [f_MO_layLakes_L119.eq_2, g.1.1, if_pos (Int32.le_refl _)], g.1.cong (fun l hl => by simp [hl]) (fun _ _ => rfl), g.2⟩)
    (fun i a k hk g => by
      obtain ⟨g1, g2, g3⟩ := g
      obtain ⟨k1, k2, k3, k4, k5, k6, k7, k8⟩ := g1.2 k hk
      refine ⟨sI a 78 k (if qA σ k = -3 then 1 else 0), ⟨⟨?_, fun l hl => ?_⟩, fun q hq => by rw [sI_ne hq]; exact g2 q hq, g3⟩, ?_⟩
      · rw [sI_ne (by decide)]; exact g1.1
      · rw [sI_2, sI_ne (p := 74) (by decide), sI_ne (p := 75) (by decide), sI_ne (p := 76) (by decide), sI_ne (p := 77) (by decide), sI_ne (p := 72) (by decide), sI_ne (p := 79) (by decide)]
        obtain ⟨l1, l2, l3, l4, l5, l6, l7, l8⟩ := g1.2 l hl
        refine ⟨l1, l2, l3, l4, l5, l6, ?_, l8⟩
        by_cases e : l = k
        · subst e
          rw [sI_at]
          by_cases c : qA σ l = -3
          · rw [if_pos c]; simp [c]
          · rw [if_neg c]; simp [c]
        · rw [sI_off e, l7]
          have : decide (l < k + 1) = decide (l < k) := by apply decide_eq_decide.mpr; omega
          simp only [this]
      · show f_MO_layLakes_L119 (i + 1) a (nI k) = f_MO_layLakes_L119 i _ (nI (k + 1))
        rw [f_MO_layLakes_L119.eq_2, g1.1, if_neg (nI_ge hk (by omega)), nI_1]
        simp only [G_n (show k < 64 by omega) (show 64 < 2147483648 by decide)]
        rw [cl (by omega), k6]
        by_cases c : qA σ k = -3
        · rw [if_pos c, if_pos c, if_pos rfl]; rfl
        · rw [if_neg c, if_neg c, if_neg (by decide)]; rfl)
  obtain ⟨q1, q2, q3, q4, q5, q6, q7, q8⟩ := hR.2.1 l hl
  exact ⟨q1, q2, q3, q4, q5, q6, by rw [q7]; simp, q8⟩
end MEAS
