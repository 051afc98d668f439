/-! ===== a field goes under: the reference ===== -/
def qFt (ν a : Mem) : Prop := (∀ q, q < 72 → q ≠ 63 → a.1 q = ν.1 q) ∧ (∀ j, j ≠ 11 → a.1 63 j = ν.1 63 j) ∧ a.1 83 = ν.1 83 ∧ ∀ q, q ≠ 73 → a.2 q = ν.2 q
theorem qFt.rf {ν : Mem} : qFt ν ν := ⟨fun _ _ _ => rfl, fun _ _ => rfl, rfl, fun _ _ => rfl⟩
theorem qFt.tr {ν a b : Mem} (h : qFt ν a) (g : qFt a b) : qFt ν b := ⟨fun q h1 h2 => (g.1 q h1 h2).trans (h.1 q h1 h2), fun j hj => (g.2.1 j hj).trans (h.2.1 j hj), g.2.2.1.trans h.2.2.1, fun q hq => (g.2.2.2 q hq).trans (h.2.2.2 q hq)⟩
theorem qFt.Fm {ν a : Mem} (h : qFt ν a) : qFm ν a := ⟨h.1, fun j hj => h.2.1 j (by omega), h.2.2.2⟩
/-- a new lake's memory -/
def qnl (ν : Mem) (N : Nat) : Mem := sI (sI (sI (sI (sI (sI (sJ (sI (sI ν 63 11 (nI (N + 1))) 72 N 0) 73 N 0) 74 N (-3)) 75 N (-3)) 76 N (-3)) 77 N (-3)) 78 N 0) 79 N 0
/-- a double's memory, owners aside -/
def qtw (ν : Mem) (N f a b : Nat) : Mem := sI (sI (sI (sI (sJ (sI (sI (sI (qnl ν N) 72 N 1) 76 N (nI (min a b))) 77 N (nI (max a b))) 73 N ((qnl ν N).2 73 a ||| (qnl ν N).2 73 b)) 74 a (nI f)) 74 b (nI f)) 75 a (nI N)) 75 b (nI N)
section UNDERM
variable {w n : Nat} {ld : Nat → Bool} {ht : Nat → Int32} {dn : Nat → Int32} {σ : qLS} {U T : Nat → Bool} {f : Nat} {ν : Mem}
theorem MO_becomes (h5 : ν.1 63 5 = nI n) (hn : n ≤ 64) (x y : Int32) : ∃ a, f_MO_becomes ν x y = some a ∧ (∀ g, g < n → a.1 81 g = if ¬ ν.1 82 g = 0 ∧ ν.1 81 g = x then y else ν.1 81 g) ∧ (∀ q, q ≠ 81 → a.1 q = ν.1 q) ∧ a.2 = ν.2 := by
  unfold f_MO_becomes
  obtain ⟨v, v1, v2, v3, v4⟩ := lp_0 (fun i a k => f_MO_becomes_L2 x y i a (nI k)) (fun k a => (∀ g, g < n → a.1 81 g = if g < k ∧ ¬ ν.1 82 g = 0 ∧ ν.1 81 g = x then y else ν.1 81 g) ∧ (∀ q, q ≠ 81 → a.1 q = ν.1 q) ∧ a.2 = ν.2) (fun a => (∀ g, g < n → a.1 81 g = if ¬ ν.1 82 g = 0 ∧ ν.1 81 g = x then y else ν.1 81 g) ∧ (∀ q, q ≠ 81 → a.1 q = ν.1 q) ∧ a.2 = ν.2) n ν (by omega)
    ⟨fun g _ => by rw [if_neg (fun h => absurd h.1 (Nat.not_lt_zero g))], fun _ _ => rfl, rfl⟩
    (fun i a g => by
      obtain ⟨g1, g2, g3⟩ := g
      refine ⟨a, ?_, fun x hx => ?_, g2, g3⟩
      · show f_MO_becomes_L2 x y (i + 1) a (nI n) = _
        rw [f_MO_becomes_L2.eq_2, g2 63 (by decide), h5, if_pos (Int32.le_refl _)]
      · rw [g1 x hx]
        simp [hx])
    (fun i a k hk g => by
      obtain ⟨g1, g2, g3⟩ := g
      show ∃ a', _ ∧ f_MO_becomes_L2 x y (i + 1) a (nI k) = f_MO_becomes_L2 x y i a' (nI (k + 1))
      have ek : a.1 81 k = ν.1 81 k := by rw [g1 k hk, if_neg (fun h => absurd h.1 (by omega))]
      rw [f_MO_becomes_L2.eq_2, g2 63 (by decide), h5, if_neg (nI_ge hk (by omega)), nI_1]
      simp only [G_n (show k < 64 by omega) (show 64 < 2147483648 by decide)]
      rw [cl (by omega), g2 82 (by decide), ek]
      have keep : ¬ (¬ ν.1 82 k = 0 ∧ ν.1 81 k = x) → ∀ g, g < n → a.1 81 g = if g < k + 1 ∧ ¬ ν.1 82 g = 0 ∧ ν.1 81 g = x then y else ν.1 81 g := by
        intro hc g hg
        rw [g1 g hg]
        by_cases e : g = k
        · subst e
          rw [if_neg (fun h => absurd h.1 (by omega)), if_neg (fun h => hc h.2)]
        · have : g < k + 1 ↔ g < k := by omega
          simp only [this]
      by_cases c1 : ν.1 82 k = 0
      · rw [if_pos c1]
        exact ⟨a, ⟨keep (fun h => h.1 c1), g2, g3⟩, rfl⟩
      · rw [if_neg c1]
        by_cases c2 : ν.1 81 k = x
        · rw [if_pos c2]
          refine ⟨sI a 81 k y, ⟨fun g hg => ?_, fun q hq => by rw [sI_ne hq]; exact g2 q hq, g3⟩, rfl⟩
          by_cases e : g = k
          · subst e
            rw [sI_at, if_pos ⟨by omega, c1, c2⟩]
          · rw [sI_off e, g1 g hg]
            have : g < k + 1 ↔ g < k := by omega
            simp only [this]
        · rw [if_neg c2]
          exact ⟨a, ⟨keep (fun h => c2 h.2), g2, g3⟩, rfl⟩)
  rw [show f_MO_becomes_L2 x y FU ν 0 = some v from v1]
  exact ⟨v, rfl, v2, v3, v4⟩
theorem MO_newLake {N : Nat} (h : ν.1 63 11 = nI N) (hN : N < 64) : f_MO_newLake ν = some (nI N, qnl ν N) := by
  unfold f_MO_newLake
  rw [h]
  simp only [G_n hN (show 64 < 2147483648 by decide)]
  rw [cl (by omega), nI_1]
  rfl
theorem qnl_F {N : Nat} : qFt ν (qnl ν N) := by
  refine ⟨fun q h1 h2 => ?_, fun j hj => ?_, ?_, fun q hq => ?_⟩
  · unfold qnl
    rw [sI_ne (by omega), sI_ne (by omega), sI_ne (by omega), sI_ne (by omega), sI_ne (by omega), sI_ne (by omega), sJ_1, sI_ne (by omega), sI_ne (by omega)]
  · unfold qnl
    rw [sI_ne (by omega), sI_ne (by omega), sI_ne (by omega), sI_ne (by omega), sI_ne (by omega), sI_ne (by omega), sJ_1, sI_ne (by omega), sI_off hj]
  · unfold qnl
    rw [sI_ne (by omega), sI_ne (by omega), sI_ne (by omega), sI_ne (by omega), sI_ne (by omega), sI_ne (by omega), sJ_1, sI_ne (by omega), sI_ne (by omega)]
  · unfold qnl
    simp only [sI_2]
    rw [sJ_ne hq, sI_2, sI_2]
theorem qnl_81 {N : Nat} : (qnl ν N).1 81 = ν.1 81 ∧ (qnl ν N).1 82 = ν.1 82 ∧ (qnl ν N).1 63 11 = nI (N + 1) := by
  unfold qnl
  refine ⟨?_, ?_, ?_⟩
  · rw [sI_ne (by omega), sI_ne (by omega), sI_ne (by omega), sI_ne (by omega), sI_ne (by omega), sI_ne (by omega), sJ_1, sI_ne (by omega), sI_ne (by omega)]
  · rw [sI_ne (by omega), sI_ne (by omega), sI_ne (by omega), sI_ne (by omega), sI_ne (by omega), sI_ne (by omega), sJ_1, sI_ne (by omega), sI_ne (by omega)]
  · rw [sI_ne (by omega), sI_ne (by omega), sI_ne (by omega), sI_ne (by omega), sI_ne (by omega), sI_ne (by omega), sJ_1, sI_ne (by omega), sI_at]
theorem qnl_get {N l : Nat} (h : l ≠ N) : (qnl ν N).1 72 l = ν.1 72 l ∧ (qnl ν N).2 73 l = ν.2 73 l ∧ (qnl ν N).1 74 l = ν.1 74 l ∧ (qnl ν N).1 75 l = ν.1 75 l ∧ (qnl ν N).1 76 l = ν.1 76 l ∧ (qnl ν N).1 77 l = ν.1 77 l ∧ (qnl ν N).1 78 l = ν.1 78 l ∧ (qnl ν N).1 79 l = ν.1 79 l := by
  unfold qnl
  simp [sI_get, sJ_get, sJ_1, sI_2, h]
theorem qnl_at {N : Nat} : (qnl ν N).1 72 N = 0 ∧ (qnl ν N).2 73 N = 0 ∧ (qnl ν N).1 74 N = -3 ∧ (qnl ν N).1 75 N = -3 ∧ (qnl ν N).1 76 N = -3 ∧ (qnl ν N).1 77 N = -3 ∧ (qnl ν N).1 78 N = 0 ∧ (qnl ν N).1 79 N = 0 := by
  unfold qnl
  simp [sI_get, sJ_get, sJ_1, sI_2]
theorem qtw_F {N a b : Nat} : qFt ν (qtw ν N f a b) := by
  refine qnl_F.tr (a := qnl ν N) ⟨fun q h1 h2 => ?_, fun j hj => ?_, ?_, fun q hq => ?_⟩
  · unfold qtw
    rw [sI_ne (by omega), sI_ne (by omega), sI_ne (by omega), sI_ne (by omega), sJ_1, sI_ne (by omega), sI_ne (by omega), sI_ne (by omega)]
  · unfold qtw
    rw [sI_ne (by omega), sI_ne (by omega), sI_ne (by omega), sI_ne (by omega), sJ_1, sI_ne (by omega), sI_ne (by omega), sI_ne (by omega)]
  · unfold qtw
    rw [sI_ne (by omega), sI_ne (by omega), sI_ne (by omega), sI_ne (by omega), sJ_1, sI_ne (by omega), sI_ne (by omega), sI_ne (by omega)]
  · unfold qtw
    simp only [sI_2]
    rw [sJ_ne hq]
    rfl
theorem qtw_81 {N a b : Nat} : (qtw ν N f a b).1 81 = ν.1 81 ∧ (qtw ν N f a b).1 82 = ν.1 82 ∧ (qtw ν N f a b).1 63 11 = nI (N + 1) := by
  unfold qtw
  refine ⟨?_, ?_, ?_⟩
  · rw [sI_ne (by omega), sI_ne (by omega), sI_ne (by omega), sI_ne (by omega), sJ_1, sI_ne (by omega), sI_ne (by omega), sI_ne (by omega)]; exact qnl_81.1
  · rw [sI_ne (by omega), sI_ne (by omega), sI_ne (by omega), sI_ne (by omega), sJ_1, sI_ne (by omega), sI_ne (by omega), sI_ne (by omega)]; exact qnl_81.2.1
  · rw [sI_ne (by omega), sI_ne (by omega), sI_ne (by omega), sI_ne (by omega), sJ_1, sI_ne (by omega), sI_ne (by omega), sI_ne (by omega)]; exact qnl_81.2.2
theorem qtw_Lm {a b : Nat} (hR : qRM n ν σ U) (hN : qN σ < 64) (ha : a < qN σ) (hb : b < qN σ) (hab : a ≠ b) : ∀ l, l < qN (qdbl σ f a b) → qLm (qtw ν (qN σ) f a b) (qdbl σ f a b) l := by
  intro l hl
  have xa : a ≠ qN σ := by omega
  have xb : b ≠ qN σ := by omega
  rcases qd_lt hl with q | q
  · obtain ⟨r1, r2, r3, r4, r5, r6, r7, r8⟩ := hR.2.1 l q
    have hne : l ≠ qN σ := by omega
    obtain ⟨n1, n2, n3, n4, n5, n6, n7, n8⟩ := qnl_get (ν := ν) hne
    unfold qLm
    rw [qd_F q, qd_A q, qd_B q]
    unfold qtw
    by_cases e1 : l = b
    · subst e1
      rw [qd_Mb, qd_Wb]
      have e2 : l ≠ a := Ne.symm hab
      simp [sI_get, sJ_get, sJ_1, sI_2, hne, e2, n1, n2, n3, n4, n5, n6, n7, n8]
      exact ⟨r1, r4, r5, r6, r7, r8⟩
    · by_cases e2 : l = a
      · subst e2
        rw [qd_Ma hab, qd_Wa hab]
        simp [sI_get, sJ_get, sJ_1, sI_2, hne, e1, n1, n2, n3, n4, n5, n6, n7, n8]
        exact ⟨r1, r4, r5, r6, r7, r8⟩
      · rw [qd_M q e2 e1, qd_W q e2 e1]
        simp [sI_get, sJ_get, sJ_1, sI_2, hne, e1, e2, n1, n2, n3, n4, n5, n6, n7, n8]
        exact ⟨r1, r2, r3, r4, r5, r6, r7, r8⟩
  · subst q
    obtain ⟨n1, n2, n3, n4, n5, n6, n7, n8⟩ := qnl_at (ν := ν) (N := qN σ)
    have na := (qnl_get (ν := ν) xa).2.1
    have nb := (qnl_get (ν := ν) xb).2.1
    unfold qLm
    rw [qd_MN ha hb, qd_WN ha hb, qd_AN, qd_BN, if_neg (nI_n3 (by omega))]
    unfold qtw
    simp [sI_get, sJ_get, sJ_1, sI_2, Ne.symm xa, Ne.symm xb, n1, n2, n3, n4, n5, n6, n7, n8]
    intro g
    rw [bit_or, na, nb, (hR.2.1 a ha).1 g, (hR.2.1 b hb).1 g]
    exact (congrFun (va_up_self (qF σ) (qN σ) (fun g => qF σ a g || qF σ b g)) g).symm
theorem qLm.cong {a : Mem} {τ : qLS} {l : Nat} (h : qLm ν τ l) (h1 : ∀ q, q ≠ 81 → q ≠ 82 → a.1 q = ν.1 q) (h2 : a.2 = ν.2) : qLm a τ l := by
  unfold qLm
  rw [h2, h1 74 (by decide) (by decide), h1 75 (by decide) (by decide), h1 76 (by decide) (by decide), h1 77 (by decide) (by decide), h1 72 (by decide) (by decide), h1 78 (by decide) (by decide), h1 79 (by decide) (by decide)]
  exact h
theorem MO_twice (h5 : ν.1 63 5 = nI n) (hn : n ≤ 64) (hR : qRM n ν σ U) (hN : qN σ < 64) {a b : Nat} (ha : a < qN σ) (hb : b < qN σ) (hab : a ≠ b) (ta : qW σ a = -3) (tb : qW σ b = -3) : ∃ c, f_MO_twice ν (nI a) (nI b) (nI f) = some (nI (qN σ), c) ∧ qRM n c (qdbl σ f a b) U ∧ qFt ν c := by
  have key : f_MO_twice ν (nI a) (nI b) (nI f) = (f_MO_becomes (qtw ν (qN σ) f a b) (nI a) (nI (qN σ))).bind fun v14 => (f_MO_becomes v14 (nI b) (nI (qN σ))).bind fun v15 => some (nI (qN σ), v15) := by
    unfold f_MO_twice
    rw [MO_newLake hR.1 hN]
    simp only [Option.bind_some, G_n hN (show 64 < 2147483648 by decide), G_n (show a < 64 by omega) (show 64 < 2147483648 by decide), G_n (show b < 64 by omega) (show 64 < 2147483648 by decide)]
    have m1 : (if nI b ≤ nI a then some (nI b) else some (nI a)) = some (nI (min a b)) := by
      by_cases c : b ≤ a
      · rw [if_pos (nI_le c (by omega)), Nat.min_eq_right c]
      · rw [if_neg (nI_ge (by omega) (by omega)), Nat.min_eq_left (by omega)]
    have m2 : (if nI b ≤ nI a then some (nI a) else some (nI b)) = some (nI (max a b)) := by
      by_cases c : b ≤ a
      · rw [if_pos (nI_le c (by omega)), Nat.max_eq_left c]
      · rw [if_neg (nI_ge (by omega) (by omega)), Nat.max_eq_right (by omega)]
    rw [m1, m2]
    simp only [Option.bind_some, G_n hN (show 64 < 2147483648 by decide), G_n (show a < 64 by omega) (show 64 < 2147483648 by decide), G_n (show b < 64 by omega) (show 64 < 2147483648 by decide)]
    rw [cl (show qN σ < 2147483648 by omega), cl (show a < 2147483648 by omega), cl (show b < 2147483648 by omega)]
    rfl
  have F0 := qtw_F (ν := ν) (N := qN σ) (f := f) (a := a) (b := b)
  obtain ⟨w1, w2, w3⟩ := qtw_81 (ν := ν) (N := qN σ) (f := f) (a := a) (b := b)
  obtain ⟨c, c1, c2, c3, c4⟩ := MO_becomes (ν := qtw ν (qN σ) f a b) (n := n) (by rw [F0.2.1 5 (by decide)]; exact h5) hn (nI a) (nI (qN σ))
  obtain ⟨d, d1, d2, d3, d4⟩ := MO_becomes (ν := c) (n := n) (by rw [c3 63 (by decide), F0.2.1 5 (by decide)]; exact h5) hn (nI b) (nI (qN σ))
  refine ⟨d, ?_, ⟨?_, ?_, ?_, ?_⟩, ?_⟩
  · rw [key, c1]
    simp only [Option.bind_some]
    rw [d1]
    rfl
  · rw [d3 63 (by decide), c3 63 (by decide), w3]; rfl
  · intro l hl
    refine (qtw_Lm (f := f) hR hN ha hb hab l hl).cong (fun q h1 _ => ?_) ?_
    · rw [d3 q h1, c3 q h1]
    · rw [d4, c4]
  · intro g hg
    rw [d3 82 (by decide), c3 82 (by decide), w2]
    exact hR.2.2.1 g hg
  · intro g hg hu
    have u1 : ν.1 82 g = 1 := by rw [hR.2.2.1 g hg, if_pos hu]
    obtain ⟨o1, o2⟩ := hR.2.2.2 g hg hu
    have cv : c.1 81 g = if ν.1 81 g = nI a then nI (qN σ) else ν.1 81 g := by
      rw [c2 g hg, w1, w2, u1]
      simp
    have dv : d.1 81 g = if c.1 81 g = nI b then nI (qN σ) else c.1 81 g := by
      rw [d2 g hg, c3 82 (by decide), w2, u1]
      simp
    refine ⟨fun hs => ?_, fun l hl hw hF => ?_⟩
    · have e1 : c.1 81 g = -5 := by rw [cv, o1 hs]; exact if_neg (fun e => nI_n5 (show a < 2147483648 by omega) e.symm)
      rw [dv, e1]
      exact if_neg (fun e => nI_n5 (show b < 2147483648 by omega) e.symm)
    · rcases qd_lt hl with q | q
      · obtain ⟨t1, t2, t3⟩ := qd_top (by omega) hab q hw
        rw [qd_F q] at hF
        have e1 : c.1 81 g = nI l := by rw [cv, o2 l q t1 hF]; exact if_neg (fun e => t2 (nI_inj (by omega) (by omega) e))
        rw [dv, e1]
        exact if_neg (fun e => t3 (nI_inj (by omega) (by omega) e))
      · subst q
        rcases qd_FN.mp hF with q | q
        · have e1 : c.1 81 g = nI (qN σ) := by rw [cv, o2 a ha ta q]; exact if_pos rfl
          rw [dv, e1]
          exact ite_self _
        · have e1 : c.1 81 g = nI b := by rw [cv, o2 b hb tb q]; exact if_neg (fun e => hab (nI_inj (by omega) (by omega) e.symm))
          rw [dv, e1]
          exact if_pos rfl
  · refine F0.tr ⟨fun q h1 h2 => ?_, fun j _ => ?_, ?_, fun q _ => ?_⟩
    · rw [d3 q (by omega), c3 q (by omega)]
    · rw [d3 63 (by decide), c3 63 (by decide)]
    · rw [d3 83 (by decide), c3 83 (by decide)]
    · rw [d4, c4]
/-- one top spills -/
theorem MO_spill1 (h5 : ν.1 63 5 = nI n) (hn : n ≤ 64) (hR : qRM n ν σ U) (hL : qIL σ) (hN : qN σ < 64) {t : Nat} (ht' : t < qN σ) (wt : qW σ t = -3) : ∃ c, f_MO_becomes (sI (sI ν 74 t (nI f)) 75 t (-5)) (nI t) (-5) = some c ∧ qRM n c (qspl σ f t) U ∧ qFt ν c := by
  have e81 : (sI (sI ν 74 t (nI f)) 75 t (-5)).1 81 = ν.1 81 := by rw [sI_ne (by decide), sI_ne (by decide)]
  have e82 : (sI (sI ν 74 t (nI f)) 75 t (-5)).1 82 = ν.1 82 := by rw [sI_ne (by decide), sI_ne (by decide)]
  have e63 : (sI (sI ν 74 t (nI f)) 75 t (-5)).1 63 = ν.1 63 := by rw [sI_ne (by decide), sI_ne (by decide)]
  obtain ⟨c, c1, c2, c3, c4⟩ := MO_becomes (ν := sI (sI ν 74 t (nI f)) 75 t (-5)) (n := n) (by rw [e63]; exact h5) hn (nI t) (-5)
  refine ⟨c, c1, ⟨?_, ?_, ?_, ?_⟩, ?_⟩
  · rw [c3 63 (by decide), e63]; exact hR.1
  · intro l hl
    have hl' : l < qN σ := hl
    obtain ⟨r1, r2, r3, r4, r5, r6, r7, r8⟩ := hR.2.1 l hl'
    have : qLm (sI (sI ν 74 t (nI f)) 75 t (-5)) (qspl σ f t) l := by
      unfold qLm
      by_cases e : l = t
      · subst e
        rw [qs_Ml, qs_Wl]
        simp [sI_get, sI_2]
        exact ⟨r1, r4, r5, r6, r7, r8⟩
      · rw [qs_M e, qs_W e]
        simp [sI_get, sI_2, e]
        exact ⟨r1, r2, r3, r4, r5, r6, r7, r8⟩
    exact this.cong (fun q h1 _ => c3 q h1) c4
  · intro g hg
    rw [c3 82 (by decide), e82]
    exact hR.2.2.1 g hg
  · intro g hg hu
    have u1 : ν.1 82 g = 1 := by rw [hR.2.2.1 g hg, if_pos hu]
    obtain ⟨o1, o2⟩ := hR.2.2.2 g hg hu
    have cv : c.1 81 g = if ν.1 81 g = nI t then -5 else ν.1 81 g := by
      rw [c2 g hg, e81, e82, u1]
      simp
    refine ⟨fun hs => ?_, fun l hl hw hF => ?_⟩
    · have hs' : (qS σ g || qF σ t g) = true := hs
      rw [Bool.or_eq_true] at hs'
      rcases hs' with q | q
      · rw [cv, o1 q]; exact if_neg (fun e => nI_n5 (show t < 2147483648 by omega) e.symm)
      · rw [cv, o2 t ht' wt q]; exact if_pos rfl
    · obtain ⟨w1, w2⟩ := qs_top hw
      have hl' : l < qN σ := hl
      rw [cv, o2 l hl' w2 hF]
      exact if_neg (fun e => w1 (nI_inj (by omega) (by omega) e))
  · refine ⟨fun q h1 h2 => ?_, fun j _ => ?_, ?_, fun q _ => ?_⟩
    · rw [c3 q (by omega), sI_ne (by omega), sI_ne (by omega)]
    · rw [c3 63 (by decide), e63]
    · rw [c3 83 (by decide), sI_ne (by decide), sI_ne (by decide)]
    · rw [c4]; rfl
end UNDERM
