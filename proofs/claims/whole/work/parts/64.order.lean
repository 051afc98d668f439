/-! ===== the order of land, the lowest first ===== -/
def OrC (n : Nat) (P : Nat → Bool) (ht : Nat → Int32) (a : Mem) (m : Nat) (od : Nat → Nat) : Prop := a.1 18 9 = nI m ∧ (∀ k, k < m → a.1 23 k = nI (od k) ∧ od k < n ∧ P (od k) = true) ∧ (∀ i j, i < j → j < m → lw ht (od i) (od j) = true) ∧ ∀ f, P f = true → ∃ k, k < m ∧ od k = f
section ORD
variable {w n : Nat} {ld : Nat → Bool} {ht : Nat → Int32} {μ : Mem}
theorem ins_loop (hz : Sz w n ld) (h : ReC w n ld ht μ) {f m : Nat} {od : Nat → Nat} (hf : f < n) (hm : m < 64) (hod : ∀ k, k < m → od k < n ∧ od k ≠ f) (hso : ∀ i j, i < j → j < m → lw ht (od i) (od j) = true) :
    ∀ (p fuel : Nat) (b : Mem), p ≤ m → p < fuel → (∀ k, k < p → b.1 23 k = nI (od k)) → (∀ k, p < k → k ≤ m → b.1 23 k = nI (od (k - 1))) → (∀ k, p ≤ k → k < m → lw ht f (od k) = true) → (∀ q, q ≠ 23 → b.1 q = μ.1 q) → b.2 = μ.2 →
    ∃ (p' : Nat) (b' : Mem), f_RE_insertByHeight_L2 (nI f) fuel b (nI p) = some (nI p', b') ∧ p' ≤ m ∧ (∀ k, k < p' → b'.1 23 k = nI (od k)) ∧ (∀ k, p' < k → k ≤ m → b'.1 23 k = nI (od (k - 1))) ∧ (∀ k, p' ≤ k → k < m → lw ht f (od k) = true) ∧ (∀ k, k < p' → lw ht (od k) f = true) ∧ (∀ q, q ≠ 23 → b'.1 q = μ.1 q) ∧ b'.2 = μ.2 := by
  have hn := hz.2.2.1
  intro p
  induction p with
  | zero =>
    intro fuel b hp hfu h1 h2 h3 h4 h5
    obtain ⟨fuel, rfl⟩ : ∃ x, fuel = x + 1 := ⟨fuel - 1, by omega⟩
    refine ⟨0, b, ?_, hp, h1, h2, h3, fun k hk => absurd hk (Nat.not_lt_zero k), h4, h5⟩
    rw [f_RE_insertByHeight_L2.eq_2, if_pos (by decide)]
  | succ p ih =>
    intro fuel b hp hfu h1 h2 h3 h4 h5
    obtain ⟨fuel, rfl⟩ : ∃ x, fuel = x + 1 := ⟨fuel - 1, by omega⟩
    have rb : ReC w n ld ht b := h.of (by rw [h4 18 (by decide)]) (by rw [h4 18 (by decide)]) (by rw [h5]) (h4 19 (by decide))
    obtain ⟨o1, o2⟩ := hod p (by omega)
    have hstep : f_RE_insertByHeight_L2 (nI f) (fuel + 1) b (nI (p + 1)) = if lw ht f (od p) = true then f_RE_insertByHeight_L2 (nI f) fuel (sI b 23 (p + 1) (nI (od p))) (nI p) else some (nI (p + 1), b) := by
      rw [f_RE_insertByHeight_L2.eq_2, if_neg (nI_nle (by omega) (by omega)), nI_pred]
      simp only [G_n (show p < 64 by omega) (show 64 < 2147483648 by decide)]
      rw [cl (by omega), h1 p (by omega), RE_isLower hn rb hf o1]
      simp only [Option.bind_some]
      by_cases c : lw ht f (od p) = true
      · rw [if_pos c, if_neg (by decide), if_pos c, G_n (by omega) (by decide), cl (by omega), pk_m1]
      · rw [if_neg c, if_pos rfl, if_neg c]
    rw [hstep]
    by_cases c : lw ht f (od p) = true
    · rw [if_pos c]
      refine ih fuel _ (by omega) (by omega) ?_ ?_ ?_ ?_ h5
      · intro k hk
        rw [sI_off (by omega)]
        exact h1 k (by omega)
      · intro k hk hkm
        by_cases e : k = p + 1
        · subst e; rw [sI_at]; rfl
        · rw [sI_off e]; exact h2 k (by omega) hkm
      · intro k hk hkm
        by_cases e : k = p
        · subst e; exact c
        · exact h3 k (by omega) hkm
      · intro q hq
        rw [sI_ne hq]
        exact h4 q hq
    · rw [if_neg c]
      refine ⟨p + 1, b, rfl, hp, h1, h2, h3, fun k hk => ?_, h4, h5⟩
      have hpf : lw ht (od p) f = true := (lw_tot o2).resolve_right c
      by_cases e : k = p
      · subst e; exact hpf
      · exact lw_tr (hso k p (by omega) (by omega)) hpf
theorem RE_insert (hz : Sz w n ld) (h : ReC w n ld ht μ) {f m : Nat} {od : Nat → Nat} {P : Nat → Bool} (hf : f < n) (hm : m < 64) (hP : P f = false) (ho : OrC n P ht μ m od) : ∃ (a : Mem) (od' : Nat → Nat), f_RE_insertByHeight μ (nI f) (nI m) = some a ∧ (∀ q, q ≠ 23 → a.1 q = μ.1 q) ∧ a.2 = μ.2 ∧ OrC n (fun g => P g || decide (g = f)) ht (sI a 18 9 (nI (m + 1))) (m + 1) od' := by
  obtain ⟨g1, g2, g3, g4⟩ := ho
  have hne : ∀ k, k < m → od k < n ∧ od k ≠ f := fun k hk => ⟨(g2 k hk).2.1, fun e => by
    have := (g2 k hk).2.2
    rw [e, hP] at this
    cases this⟩
  obtain ⟨p, b, k1, k2, k3, k4, k5, k6, k7, k8⟩ := ins_loop hz h hf hm hne g3 m FU μ (Nat.le_refl m) (by unfold FU; omega) (fun k hk => (g2 k hk).1) (fun k h1 h2 => absurd h1 (by omega)) (fun k h1 h2 => absurd h1 (by omega)) (fun _ _ => rfl) rfl
  refine ⟨sI b 23 p (nI f), fun k => if k < p then od k else if k = p then f else od (k - 1), ?_, fun q hq => by rw [sI_ne hq]; exact k7 q hq, k8, ?_, ?_, ?_, ?_⟩
  · unfold f_RE_insertByHeight
    rw [k1]
    simp only [Option.bind_some]
    rw [G_n (by omega) (by decide), cl (by omega)]
  · rw [sI_at]
  · intro k hk
    rw [sI_ne (by decide)]
    dsimp only
    by_cases e1 : k < p
    · rw [if_pos e1, sI_off (by omega), k3 k e1]
      exact ⟨rfl, (g2 k (by omega)).2.1, by simp [(g2 k (by omega)).2.2]⟩
    · rw [if_neg e1]
      by_cases e2 : k = p
      · subst e2
        rw [if_pos rfl, sI_at]
        exact ⟨rfl, hf, by simp⟩
      · rw [if_neg e2, sI_off e2, k4 k (by omega) (by omega)]
        exact ⟨rfl, (g2 (k - 1) (by omega)).2.1, by simp [(g2 (k - 1) (by omega)).2.2]⟩
  · intro i j hij hj
    by_cases i1 : i < p
    · simp only [if_pos i1]
      by_cases j1 : j < p
      · simp only [if_pos j1]; exact g3 i j hij (by omega)
      · simp only [if_neg j1]
        by_cases j2 : j = p
        · simp only [if_pos j2]; exact k6 i i1
        · simp only [if_neg j2]; exact g3 i (j - 1) (by omega) (by omega)
    · simp only [if_neg i1]
      rw [if_neg (show ¬ j < p by omega), if_neg (show ¬ j = p by omega)]
      by_cases i2 : i = p
      · simp only [if_pos i2]; exact k5 (j - 1) (by omega) (by omega)
      · simp only [if_neg i2]; exact g3 (i - 1) (j - 1) (by omega) (by omega)
  · intro g hg
    by_cases e : g = f
    · subst e
      exact ⟨p, by omega, by simp⟩
    · have : P g = true := by simpa [e] using hg
      obtain ⟨k, h1, h2⟩ := g4 g this
      by_cases e1 : k < p
      · exact ⟨k, by omega, by dsimp only; rw [if_pos e1]; exact h2⟩
      · exact ⟨k + 1, by omega, by dsimp only; rw [if_neg (by omega), if_neg (by omega)]; exact h2⟩
theorem RE_sortLand (hz : Sz w n ld) (h : ReC w n ld ht μ) (h0 : μ.1 18 9 = 0) : ∃ (a : Mem) (m : Nat) (od : Nat → Nat), f_RE_sortLand μ = some a ∧ ReC w n ld ht a ∧ m ≤ n ∧ OrC n ld ht a m od ∧ (∀ q, q ≠ 18 → q ≠ 23 → a.1 q = μ.1 q) ∧ a.2 = μ.2 := by
  have hn := hz.2.2.1
  unfold f_RE_sortLand
  obtain ⟨v, h1, m, od, q1, q2, q3, q4, q5⟩ := lp_0 (fun i a k => f_RE_sortLand_L2 i a (nI k)) (fun k a => ∃ (m : Nat) (od : Nat → Nat), ReC w n ld ht a ∧ m ≤ k ∧ OrC n (fun g => ld g && decide (g < k)) ht a m od ∧ (∀ q, q ≠ 18 → q ≠ 23 → a.1 q = μ.1 q) ∧ a.2 = μ.2)
    (fun a => ∃ (m : Nat) (od : Nat → Nat), ReC w n ld ht a ∧ m ≤ n ∧ OrC n ld ht a m od ∧ (∀ q, q ≠ 18 → q ≠ 23 → a.1 q = μ.1 q) ∧ a.2 = μ.2) n μ (by omega)
    ⟨0, fun _ => 0, h, Nat.le_refl 0, ⟨h0, fun k hk => absurd hk (Nat.not_lt_zero k), fun i j _ hj => absurd hj (Nat.not_lt_zero j), fun f hf => by simp at hf⟩, fun _ _ _ => rfl, rfl⟩
    (fun i a g => by
      obtain ⟨m, od, q1, q2, q3, q4, q5⟩ := g
      refine ⟨a, ?_, m, od, q1, q2, ?_, q4, q5⟩
      · show f_RE_sortLand_L2 (i + 1) a (nI n) = _
        rw [f_RE_sortLand_L2.eq_2, q1.2.1, if_pos (Int32.le_refl _)]
      · have e : (fun g => ld g && decide (g < n)) = ld := by
          funext g
          cases c : ld g with
          | false => rfl
          | true => simp [hz.2.2.2.2 g c]
        rw [e] at q3
        exact q3)
    (fun i a k hk g => by
      obtain ⟨m, od, q1, q2, q3, q4, q5⟩ := g
      show ∃ a', _ ∧ f_RE_sortLand_L2 (i + 1) a (nI k) = f_RE_sortLand_L2 i a' (nI (k + 1))
      rw [f_RE_sortLand_L2.eq_2, q1.2.1, if_neg (nI_ge hk (by omega)), RE_isLand hz q1 hk, q3.1, nI_1]
      by_cases c : ld k = true
      · rw [if_pos c, if_neg (by decide)]
        obtain ⟨b, od', p1, p2, p3, p4⟩ := RE_insert hz q1 (f := k) hk (by omega) (by simp) q3
        rw [p1]
        simp only [Option.bind_some]
        have e9 : b.1 18 9 = nI m := by rw [p2 18 (by decide)]; exact q3.1
        rw [e9, nI_1]
        refine ⟨_, ⟨m + 1, od', ?_, by omega, ?_, ?_, ?_⟩, rfl⟩
        · exact q1.of (by rw [sI_off (by decide), p2 18 (by decide)]) (by rw [sI_off (by decide), p2 18 (by decide)]) (by rw [sI_2, p3]) (by rw [sI_ne (by decide), p2 19 (by decide)])
        · have e : (fun g => (ld g && decide (g < k)) || decide (g = k)) = (fun g => ld g && decide (g < k + 1)) := by
            funext g
            by_cases e1 : g = k
            · subst e1; simp [c]
            · have : decide (g < k + 1) = decide (g < k) := by apply decide_eq_decide.mpr; omega
              simp [e1, this]
          rw [e] at p4
          exact p4
        · intro q e1 e2
          rw [sI_ne e1, p2 q e2]
          exact q4 q e1 e2
        · rw [sI_2, p3]
          exact q5
      · rw [if_neg c, if_pos rfl]
        simp only [Option.bind_some]
        refine ⟨a, ⟨m, od, q1, by omega, ?_, q4, q5⟩, rfl⟩
        have e : (fun g => ld g && decide (g < k + 1)) = (fun g => ld g && decide (g < k)) := by
          funext g
          by_cases e1 : g = k
          · subst e1
            rw [Bool.eq_false_iff.mpr c]
            rfl
          · have : decide (g < k + 1) = decide (g < k) := by apply decide_eq_decide.mpr; omega
            rw [this]
        rw [e]
        exact q3)
  refine ⟨v, m, od, ?_, q1, q2, q3, q4, q5⟩
  rw [show f_RE_sortLand_L2 FU μ 0 = some v from h1]
  rfl
end ORD
