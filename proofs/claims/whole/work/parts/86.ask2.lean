/-! ===== asking: lake, rise, count ===== -/
theorem ct_ext {p : Nat → Bool} {n N : Nat} (h : n ≤ N) (hp : ∀ k, n ≤ k → p k = false) : fb_ct p N = fb_ct p n := by
  obtain ⟨d, rfl⟩ : ∃ d, N = n + d := ⟨N - n, by omega⟩
  rw [fb_ct_split, fb_ct_zero.mpr (fun k _ => hp (n + k) (by omega)), Nat.add_zero]
section ASK2
variable {w n m : Nat} {ld : Nat → Bool} {ht : Nat → Int32} {od : Nat → Nat} {dn we : Nat → Int32} {σ : qLS} {th : Nat → Bool} {wa mo : Nat → Int32} {μ ν : Mem}
/-- the lowest of a set of fields -/
def LowS (n : Nat) (F : Nat → Bool) (ht : Nat → Int32) (r : Option Nat) : Prop := (r = none → ∀ g, g < n → F g = false) ∧ ∀ a, r = some a → a < n ∧ F a = true ∧ ∀ g, g < n → F g = true → g = a ∨ lw ht a g = true
theorem LowS_one {F : Nat → Bool} {r r' : Option Nat} (h : LowS n F ht r) (h' : LowS n F ht r') : r = r' := by
  cases r with
  | none =>
    cases r' with
    | none => rfl
    | some b =>
      obtain ⟨b1, b2, -⟩ := h'.2 b rfl
      rw [h.1 rfl b b1] at b2; cases b2
  | some a =>
    obtain ⟨a1, a2, a3⟩ := h.2 a rfl
    cases r' with
    | none => rw [h'.1 rfl a a1] at a2; cases a2
    | some b =>
      obtain ⟨b1, b2, b3⟩ := h'.2 b rfl
      congr 1
      rcases a3 b b1 b2 with q | q
      · exact q.symm
      · rcases b3 a a1 a2 with q2 | q2
        · exact q2
        · exact absurd q (lw_asym q2)
theorem LkC.low (hz : Sz w n ld) (hI : qInv w n ld dn σ ld) (O : OrC n ld ht μ m od) (hm : m ≤ n) (hL : LkC σ mo th wa μ) {l : Nat} (hl : l < qN σ) : ∃ r, f_RE_lowestOf μ (μ.2 (28 + l) 0) = some (encN r) ∧ LowS n (qF σ l) ht r := by
  have hn := hz.2.2.1
  have hF := fun g hg => hI.1.1 l hl g hg
  unfold f_RE_lowestOf
  refine lp_b0 (fun i (_ : Unit) k => f_RE_lowestOf_L2 μ (μ.2 (28 + l) 0) (fun _ => some (-3)) i (nI k)) (fun k _ => ∀ i, i < k → qF σ l (od i) = false) (fun v => ∃ r, v = some (encN r) ∧ LowS n (qF σ l) ht r) m () (by omega) (fun i hi => absurd hi (Nat.not_lt_zero i))
    (fun i _ h => ⟨none, by
      show f_RE_lowestOf_L2 μ (μ.2 (28 + l) 0) (fun _ => some (-3)) (i + 1) (nI m) = _
      rw [f_RE_lowestOf_L2.eq_2, O.1, if_pos (Int32.le_refl _)]; rfl, fun _ g hg => ?_, fun a h => by cases h⟩)
    (fun i _ k hk h => ?_)
  · cases c : qF σ l g with
    | false => rfl
    | true =>
      obtain ⟨j, j1, j2⟩ := O.2.2.2 g (hF g c)
      rw [← j2, h j j1] at c; cases c
  · show (∃ r, f_RE_lowestOf_L2 μ (μ.2 (28 + l) 0) (fun _ => some (-3)) (i + 1) (nI k) = _ ∧ _) ∨ ∃ _, _ ∧ f_RE_lowestOf_L2 μ (μ.2 (28 + l) 0) (fun _ => some (-3)) (i + 1) (nI k) = f_RE_lowestOf_L2 μ (μ.2 (28 + l) 0) (fun _ => some (-3)) i (nI (k + 1))
    obtain ⟨o1, o2, o3⟩ := O.2.1 k hk
    rw [f_RE_lowestOf_L2.eq_2, O.1, if_neg (nI_ge hk (by omega)), nI_1]
    simp only [G_n (show k < 64 by omega) (show 64 < 2147483648 by decide)]
    rw [cl (by omega), o1, isIn_eq _ (by omega), (hL.2 l hl).1]
    by_cases c : qF σ l (od k) = true
    · rw [if_pos c, if_neg n10]
      refine Or.inl ⟨some (od k), rfl, fun e => (by cases e), fun a e => ?_⟩
      cases e
      refine ⟨o2, c, fun g hg hFg => ?_⟩
      obtain ⟨j, j1, j2⟩ := O.2.2.2 g (hF g hFg)
      rcases Nat.lt_trichotomy j k with q | q | q
      · rw [← j2, h j q] at hFg; cases hFg
      · left; rw [← j2, q]
      · right; rw [← j2]; exact O.2.2.1 k j q j1
    · rw [if_neg c, if_pos rfl]
      refine Or.inr ⟨(), fun j hj => ?_, rfl⟩
      by_cases e : j = k
      · subst e; exact Bool.eq_false_iff.mpr c
      · exact h j (by omega)
theorem LkM.low (hn : n ≤ 64) (M : ReM w n ld ht ν) (hL : LkM σ th wa ν) (hN : qN σ ≤ 35) {l : Nat} (hl : l < qN σ) : ∃ r, f_MO_lowest ν (nI l) = some (encN r) ∧ LowS n (qF σ l) ht r := by
  unfold f_MO_lowest
  obtain ⟨v, v1, r, v2, v3, v4⟩ := lp_0 (fun i a k => f_MO_lowest_L5 ν (nI l) i a (nI k)) (fun k a => ∃ r, a = encN r ∧ (r = none → ∀ g, g < k → qF σ l g = false) ∧ ∀ a, r = some a → a < n ∧ qF σ l a = true ∧ ∀ g, g < k → qF σ l g = true → g = a ∨ lw ht a g = true) (fun a => ∃ r, a = encN r ∧ LowS n (qF σ l) ht r) n (-3) (by omega)
    ⟨none, rfl, fun _ g hg => absurd hg (Nat.not_lt_zero g), fun a h => by cases h⟩
    (fun i a g => ⟨a, by
      show f_MO_lowest_L5 ν (nI l) (i + 1) a (nI n) = _
      rw [f_MO_lowest_L5.eq_2, M.2.1, if_pos (Int32.le_refl _)], g⟩)
    (fun i a k hk g => by
      obtain ⟨r, rfl, g2, g3⟩ := g
      show ∃ a', _ ∧ f_MO_lowest_L5 ν (nI l) (i + 1) (encN r) (nI k) = f_MO_lowest_L5 ν (nI l) i a' (nI (k + 1))
      rw [f_MO_lowest_L5.eq_2, M.2.1, if_neg (nI_ge hk (by omega)), nI_1, MO_isOf (by omega) (by omega), (hL.2 l hl).1 k]
      simp only [Option.bind_some]
      by_cases c : qF σ l k = true
      · rw [if_pos c, if_neg n10]
        cases r with
        | none =>
          rw [show encN none = -3 from rfl, if_pos rfl]
          refine ⟨nI k, ⟨some k, rfl, fun e => (by cases e), fun a e => ?_⟩, rfl⟩
          cases e
          refine ⟨hk, c, fun g hg hF => ?_⟩
          by_cases q : g = k
          · exact Or.inl q
          · rw [g2 rfl g (by omega)] at hF; cases hF
        | some b =>
          obtain ⟨b1, b2, b3⟩ := g3 b rfl
          rw [show encN (some b) = nI b from rfl, if_neg (nI_n3 (by omega)), MO_isLower hn M hk b1]
          simp only [Option.bind_some]
          by_cases d : lw ht k b = true
          · rw [if_pos d, if_neg n10]
            refine ⟨nI k, ⟨some k, rfl, fun e => (by cases e), fun a e => ?_⟩, rfl⟩
            cases e
            refine ⟨hk, c, fun g hg hF => ?_⟩
            by_cases q : g = k
            · exact Or.inl q
            · rcases b3 g (by omega) hF with p | p
              · rw [p]; exact Or.inr d
              · exact Or.inr (lw_tr d p)
          · rw [if_neg d, if_pos rfl]
            refine ⟨nI b, ⟨some b, rfl, fun e => (by cases e), fun a e => ?_⟩, rfl⟩
            cases e
            refine ⟨b1, b2, fun g hg hF => ?_⟩
            by_cases q : g = k
            · by_cases p : k = b
              · exact Or.inl (q.trans p)
              · rw [q]; exact Or.inr ((lw_tot p).resolve_left d)
            · exact b3 g (by omega) hF
      · rw [if_neg c, if_pos rfl]
        refine ⟨encN r, ⟨r, rfl, fun e g hg => ?_, fun a e => ?_⟩, rfl⟩
        · by_cases q : g = k
          · subst q; exact Bool.eq_false_iff.mpr c
          · exact g2 e g (by omega)
        · obtain ⟨a1, a2, a3⟩ := g3 a e
          refine ⟨a1, a2, fun g hg hF => ?_⟩
          by_cases q : g = k
          · subst q; exact absurd hF c
          · exact a3 g (by omega) hF)
  refine ⟨r, ?_, v3, v4⟩
  rw [show f_MO_lowest_L5 ν (nI l) FU (-3) 0 = some v from v1, v2]
  rfl
theorem LkM.size (hn : n ≤ 64) (M : ReM w n ld ht ν) (hL : LkM σ th wa ν) (hN : qN σ ≤ 35) {l : Nat} (hl : l < qN σ) : f_MO_groundSize ν (nI l) = some (nI (fb_ct (qF σ l) n)) := by
  unfold f_MO_groundSize
  obtain ⟨x, h1, h2⟩ := lp_0 (fun i a k => f_MO_groundSize_L4 ν (nI l) i a (nI k)) (fun k a => a = nI (fb_ct (qF σ l) k)) (fun a => a = nI (fb_ct (qF σ l) n)) n 0 (by omega) rfl
    (fun i a g => ⟨a, by
      show f_MO_groundSize_L4 ν (nI l) (i + 1) a (nI n) = _
      rw [f_MO_groundSize_L4.eq_2, M.2.1, if_pos (Int32.le_refl _)], g⟩)
    (fun i a k hk g => by
      subst g
      refine ⟨nI (fb_ct (qF σ l) (k + 1)), rfl, ?_⟩
      show f_MO_groundSize_L4 ν (nI l) (i + 1) (nI (fb_ct (qF σ l) k)) (nI k) = f_MO_groundSize_L4 ν (nI l) i (nI (fb_ct (qF σ l) k + (if qF σ l k then 1 else 0))) (nI (k + 1))
      rw [f_MO_groundSize_L4.eq_2, M.2.1, if_neg (nI_ge hk (by omega)), MO_isOf (by omega) (by omega), nI_1, (hL.2 l hl).1 k]
      simp only [Option.bind_some]
      by_cases c : qF σ l k = true
      · rw [if_pos c, if_pos c, if_neg n10]; simp only [Option.bind_some, nI_1]
      · rw [if_neg c, if_neg c, if_pos rfl]
        simp only [Option.bind_some]
        rw [Int32.add_zero]; rfl)
  rw [show f_MO_groundSize_L4 ν (nI l) FU 0 0 = some x from h1, h2]
  rfl
theorem j_lake (a b : Int32) (hJ : JJ μ ν) : ∃ r : Int32, f_LR_lake μ a b = some r ∧ f_MO_lake ν a b = some r ∧ JJ μ ν := by
  suffices h : ∃ r : Int32, f_LR_lake μ a b = some r ∧ f_MO_lake ν a b = some r by
    obtain ⟨r, h1, h2⟩ := h
    exact ⟨r, h1, h2, hJ⟩
  unfold f_LR_lake f_MO_lake
  rcases hJ.2 with ⟨q1, q2⟩ | ⟨q1, q2, hL⟩
  · rw [q1, q2, if_pos rfl, if_pos rfl]
    exact ⟨_, rfl, rfl⟩
  obtain ⟨w, n, m, ld, ht, od, dn, we, σ, th, wa, ⟨hz, hh, hm, R, B, O, M, D, V, V2⟩, T, LC, LM, W, h6, h7⟩ := hL
  have hn := hz.2.2.1
  have hN := T.2.1
  rw [q1, q2, if_neg n10, if_neg n10]
  rcases two_lakes LC LM T.2.1 a with ⟨c1, c2⟩ | ⟨l, hl, rfl, c1, c2⟩
  · rw [c1, c2, if_pos rfl]
    exact ⟨_, rfl, rfl⟩
  rw [c1, c2, if_neg n10]
  simp only [Option.bind_some]
  rw [if_neg n10]
  by_cases b0 : b < 0
  · rw [if_pos b0, show f_MO_in b.toInt64 0 9 = 0 from MOin_no (x := b) (a := 0) (b := 9) (Or.inl b0), if_pos rfl]
    exact ⟨_, rfl, rfl⟩
  rw [if_neg b0]
  by_cases b9 : b ≤ 9
  · rw [if_pos b9, show f_MO_in b.toInt64 0 9 = 1 from MOin_yes (x := b) (a := 0) (b := 9) (Int32.not_lt.mp b0) b9, if_neg n10]
    simp only [G_n (show l < 64 by omega) (show 64 < 2147483648 by decide), G_n (show l < 35 by omega) (show 35 < 2147483648 by decide)]
    rw [cl (by omega)]
    obtain ⟨k1, k2, k3, k4, k5, k6, k7, k8⟩ := LC.2 l hl
    obtain ⟨j1, j2, j3, j4, j5, j6, j7, j8⟩ := LM.2 l hl
    obtain ⟨r, r1, r2⟩ := LC.low hz T.1 O hm hl
    obtain ⟨r', r3, r4⟩ := LM.low hn M hN hl
    have er := LowS_one r4 r2
    subst er
    have eb : f_JL_bitCount (μ.2 (28 + l) 0) = nI (fb_ct (qF σ l) n) := by
      rw [bitCount_eq, show bit (μ.2 (28 + l) 0) = qF σ l from funext k1, ct_ext hn]
      intro k hk
      cases c : qF σ l k with
      | false => rfl
      | true =>
        have := hz.2.2.2.2 k (T.1.1.1 l hl k c)
        omega
    unfold f_LA_isDouble
    rw [k2, k3, k4, k5, k6, k7, k8, j2, j3, j4, j5, j6, j7, j8, r1, r3, eb, LM.size hn M hN hl, LM.most hz T.1 M hN hl]
    simp only [Option.bind_some]
    by_cases d0 : b = 0
    · rw [if_pos d0]
      by_cases c : qA σ l = -3
      · rw [if_pos c]; exact ⟨_, rfl, rfl⟩
      · rw [if_neg c]; exact ⟨_, rfl, rfl⟩
    simp only [if_neg d0]
    by_cases d1 : b = 1
    · simp only [if_pos d1]; exact ⟨_, rfl, rfl⟩
    simp only [if_neg d1]
    by_cases d2 : b = 2
    · simp only [if_pos d2]; exact ⟨_, rfl, rfl⟩
    simp only [if_neg d2]
    by_cases d3 : b = 3
    · simp only [if_pos d3]; exact ⟨_, rfl, rfl⟩
    simp only [if_neg d3]
    by_cases d4 : b = 4
    · simp only [if_pos d4]; exact ⟨_, rfl, rfl⟩
    simp only [if_neg d4]
    by_cases d5 : b = 5
    · simp only [if_pos d5]; exact ⟨_, rfl, rfl⟩
    simp only [if_neg d5]
    by_cases d6 : b = 6
    · simp only [if_pos d6]; exact ⟨_, rfl, rfl⟩
    simp only [if_neg d6]
    by_cases d7 : b = 7
    · simp only [if_pos d7]; exact ⟨_, rfl, rfl⟩
    simp only [if_neg d7]
    by_cases t : th l = true
    · simp only [if_pos t, if_neg n10]
      by_cases d8 : b = 8
      · simp only [if_pos d8]; exact ⟨_, rfl, rfl⟩
      · simp only [if_neg d8]; exact ⟨_, rfl, rfl⟩
    · simp only [if_neg t, if_true]
      by_cases d8 : b = 8
      · simp only [if_pos d8]; exact ⟨_, rfl, rfl⟩
      · simp only [if_neg d8]; exact ⟨_, rfl, rfl⟩
  · rw [if_neg b9, show f_MO_in b.toInt64 0 9 = 0 from MOin_no (x := b) (a := 0) (b := 9) (Or.inr (Int32.not_le.mp b9)), if_pos rfl]
    exact ⟨_, rfl, rfl⟩
/-! rise -/
theorem RE_landLeft (hz : Sz w n ld) (O : OrC n ld ht μ m od) (hm : m ≤ n) (v : Int32) : ∃ s, f_RE_landLeftAt μ v = some s ∧ ∀ f, bit s f = true ↔ (ld f = true ∧ ¬ μ.1 22 f < v) := by
  have hn := hz.2.2.1
  unfold f_RE_landLeftAt
  obtain ⟨s, s1, s2⟩ := lp_0 (fun i a k => f_RE_landLeftAt_L5 μ v i a (nI k)) (fun k a => ∀ f, bit a f = true ↔ ((∃ i, i < k ∧ od i = f) ∧ ¬ μ.1 22 f < v)) (fun s => ∀ f, bit s f = true ↔ (ld f = true ∧ ¬ μ.1 22 f < v)) m 0 (by omega)
    (fun f => by
      rw [bit_0]
      exact ⟨fun h => (by cases h), fun ⟨⟨i, hi, _⟩, _⟩ => absurd hi (Nat.not_lt_zero i)⟩)
    (fun i a g => ⟨a, by
      show f_RE_landLeftAt_L5 μ v (i + 1) a (nI m) = _
      rw [f_RE_landLeftAt_L5.eq_2, O.1, if_pos (Int32.le_refl _)], fun f => by
      rw [g f]
      constructor
      · rintro ⟨⟨i, hi, e⟩, h2⟩
        exact ⟨by rw [← e]; exact (O.2.1 i hi).2.2, h2⟩
      · rintro ⟨h1, h2⟩
        exact ⟨O.2.2.2 f h1, h2⟩⟩)
    (fun i a k hk g => by
      obtain ⟨o1, o2, o3⟩ := O.2.1 k hk
      show ∃ a', _ ∧ f_RE_landLeftAt_L5 μ v (i + 1) a (nI k) = f_RE_landLeftAt_L5 μ v i a' (nI (k + 1))
      rw [f_RE_landLeftAt_L5.eq_2, O.1, if_neg (nI_ge hk (by omega)), nI_1, G_n (by omega) (by decide), cl (by omega), o1, G_n (by omega) (by decide), cl (by omega)]
      by_cases c : μ.1 22 (od k) < v
      · rw [if_pos c]
        refine ⟨a, fun f => ?_, rfl⟩
        rw [g f]
        constructor
        · rintro ⟨⟨i, hi, e⟩, h2⟩
          exact ⟨⟨i, by omega, e⟩, h2⟩
        · rintro ⟨⟨i, hi, e⟩, h2⟩
          refine ⟨⟨i, ?_, e⟩, h2⟩
          have : i ≠ k := fun q => h2 (by rw [← e, q]; exact c)
          omega
      · rw [if_neg c]
        refine ⟨a ||| f_LR_only (nI (od k)), fun f => ?_, rfl⟩
        rw [bit_or, Bool.or_eq_true, g f, bit_only (by omega), decide_eq_true_iff]
        constructor
        · rintro (⟨⟨i, hi, e⟩, h2⟩ | h)
          · exact ⟨⟨i, by omega, e⟩, h2⟩
          · rw [h]; exact ⟨⟨k, by omega, rfl⟩, c⟩
        · rintro ⟨⟨i, hi, e⟩, h2⟩
          by_cases q : i = k
          · right; rw [← e, q]
          · left; exact ⟨⟨i, by omega, e⟩, h2⟩)
  refine ⟨s, ?_, s2⟩
  rw [show f_RE_landLeftAt_L5 μ v FU 0 0 = some s from s1]
  rfl
theorem MO_riseC (hz : Sz w n ld) (M : ReM w n ld ht ν) (v : Int32) : f_MO_rise_L30 ν v FU 0 0 = some (nI (fb_ct (fun f => ld f && decide (ν.1 71 f < v)) n)) := by
  have hn := hz.2.2.1
  obtain ⟨x, h1, h2⟩ := lp_0 (fun i a k => f_MO_rise_L30 ν v i a (nI k)) (fun k a => a = nI (fb_ct (fun f => ld f && decide (ν.1 71 f < v)) k)) (fun a => a = nI (fb_ct (fun f => ld f && decide (ν.1 71 f < v)) n)) n 0 (by omega) rfl
    (fun i a g => ⟨a, by
      show f_MO_rise_L30 ν v (i + 1) a (nI n) = _
      rw [f_MO_rise_L30.eq_2, M.2.1, if_pos (Int32.le_refl _)], g⟩)
    (fun i a k hk g => by
      subst g
      refine ⟨nI (fb_ct (fun f => ld f && decide (ν.1 71 f < v)) (k + 1)), rfl, ?_⟩
      show f_MO_rise_L30 ν v (i + 1) _ (nI k) = f_MO_rise_L30 ν v i _ (nI (k + 1))
      rw [f_MO_rise_L30.eq_2, M.2.1, if_neg (nI_ge hk (by omega)), nI_1, fb_ct_succ]
      simp only [G_n (show k < 64 by omega) (show 64 < 2147483648 by decide)]
      rw [cl (by omega), M.2.2.1 k hk]
      by_cases c : ld k = true
      · rw [if_pos c, if_pos rfl]
        by_cases d : ν.1 71 k < v
        · rw [if_neg (Int32.not_le.mpr d), if_pos (show (ld k && decide (ν.1 71 k < v)) = true by simp [c, d])]
          simp only [Option.bind_some, nI_1]
        · rw [if_pos (Int32.not_lt.mp d), if_neg (show ¬ (ld k && decide (ν.1 71 k < v)) = true by simp [d])]
          simp only [Option.bind_some]
          rw [Int32.add_zero]; rfl
      · rw [if_neg c, if_neg n10, if_neg (show ¬ (ld k && decide (ν.1 71 k < v)) = true by simp [c])]
        simp only [Option.bind_some]
        rw [Int32.add_zero]; rfl)
  rw [show f_MO_rise_L30 ν v FU 0 0 = some x from h1, h2]
theorem two_sea (a : Int32) : (f_LR_isSeaLevel a = 0 ∧ f_MO_in a.toInt64 (-1000000) 1000001 = 0) ∨ (f_LR_isSeaLevel a = 1 ∧ f_MO_in a.toInt64 (-1000000) 1000001 = 1) := by
  unfold f_LR_isSeaLevel
  by_cases c : a < -1000000
  · rw [if_pos c]
    exact Or.inl ⟨rfl, MOin_no (x := a) (a := -1000000) (b := 1000001) (Or.inl c)⟩
  · rw [if_neg c]
    by_cases d : 1000001 < a
    · rw [if_pos d]
      exact Or.inl ⟨rfl, MOin_no (x := a) (a := -1000000) (b := 1000001) (Or.inr d)⟩
    · rw [if_neg d]
      exact Or.inr ⟨rfl, MOin_yes (x := a) (a := -1000000) (b := 1000001) (Int32.not_lt.mp c) (Int32.not_lt.mp d)⟩
theorem j_rise (a : Int32) (hJ : JJ μ ν) : ∃ r : Int32, f_LR_rise μ a = some r ∧ f_MO_rise ν a = some r ∧ JJ μ ν := by
  suffices h : ∃ r : Int32, f_LR_rise μ a = some r ∧ f_MO_rise ν a = some r by
    obtain ⟨r, h1, h2⟩ := h
    exact ⟨r, h1, h2, hJ⟩
  unfold f_LR_rise f_MO_rise
  rcases hJ.2 with ⟨q1, q2⟩ | ⟨q1, q2, hL⟩
  · rw [q1, q2, if_pos rfl, if_pos rfl]
    exact ⟨_, rfl, rfl⟩
  obtain ⟨w, n, m, ld, ht, od, dn, we, σ, th, wa, ⟨hz, hh, hm, R, B, O, M, D, V, V2⟩, T, LC, LM, W, h6, h7⟩ := hL
  have hn := hz.2.2.1
  rw [q1, q2, if_neg n10, if_neg n10]
  rcases two_sea a with ⟨c1, c2⟩ | ⟨c1, c2⟩
  · rw [c1, c2, if_pos rfl, if_pos rfl]
    exact ⟨_, rfl, rfl⟩
  rw [c1, c2, if_neg n10, if_neg n10]
  obtain ⟨s, s1, s2⟩ := RE_landLeft hz O hm a
  rw [s1, MO_riseC hz M a]
  simp only [Option.bind_some]
  rw [O.1, bitCount_eq, ct_ext hn (fun k hk => ?_)]
  · have e : fb_ct (bit s) n + fb_ct (fun f => ld f && decide (ν.1 71 f < a)) n = m := by
      rw [OrC_ct O hz.2.2.2.2, ← fb_ct_or]
      · refine fb_ct_cong (fun k hk => ?_)
        cases c : ld k with
        | false =>
          have : bit s k = false := Bool.eq_false_iff.mpr (fun q => by rw [((s2 k).mp q).1] at c; cases c)
          simp [this]
        | true =>
          have e2 := (V k c).2.2.2
          by_cases d : ν.1 71 k < a
          · simp [d]
          · have : bit s k = true := (s2 k).mpr ⟨c, by rw [e2]; exact d⟩
            simp [this]
      · rintro k hk ⟨h1, h2⟩
        obtain ⟨p1, p2⟩ := (s2 k).mp h1
        rw [(V k p1).2.2.2] at p2
        simp only [Bool.and_eq_true, decide_eq_true_eq] at h2
        exact p2 h2.2
    have e3 : nI m - nI (fb_ct (bit s) n) = nI (fb_ct (fun f => ld f && decide (ν.1 71 f < a)) n) := by
      rw [pk_sub (by omega)]
      congr 1
      omega
    rw [e3]
    exact ⟨_, rfl, rfl⟩
  · cases c : bit s k with
    | false => rfl
    | true =>
      have := hz.2.2.2.2 k ((s2 k).mp c).1
      omega
/-! count -/
theorem RE_hollows (hz : Sz w n ld) (R : ReC w n ld ht μ) (V : ∀ f, ld f = true → μ.1 20 f = dn f) : f_RE_hollowCount μ = some (nI (fb_ct (fun f => ld f && decide (dn f = -3)) n)) := by
  have hn := hz.2.2.1
  unfold f_RE_hollowCount
  obtain ⟨x, h1, h2⟩ := lp_0 (fun i a k => f_RE_hollowCount_L4 μ i a (nI k)) (fun k a => a = nI (fb_ct (fun f => ld f && decide (dn f = -3)) k)) (fun a => a = nI (fb_ct (fun f => ld f && decide (dn f = -3)) n)) n 0 (by omega) rfl
    (fun i a g => ⟨a, by
      show f_RE_hollowCount_L4 μ (i + 1) a (nI n) = _
      rw [f_RE_hollowCount_L4.eq_2, R.2.1, if_pos (Int32.le_refl _)], g⟩)
    (fun i a k hk g => by
      subst g
      refine ⟨nI (fb_ct (fun f => ld f && decide (dn f = -3)) (k + 1)), rfl, ?_⟩
      show f_RE_hollowCount_L4 μ (i + 1) _ (nI k) = f_RE_hollowCount_L4 μ i _ (nI (k + 1))
      rw [f_RE_hollowCount_L4.eq_2, R.2.1, if_neg (nI_ge hk (by omega)), nI_1, fb_ct_succ, RE_isHollow hz R V hk]
      simp only [Option.bind_some]
      by_cases c : (ld k && decide (dn k = -3)) = true
      · rw [if_pos c, if_pos c, if_neg n10]; simp only [Option.bind_some, nI_1]
      · rw [if_neg c, if_neg c, if_pos rfl]; simp only [Option.bind_some, nI_1, Nat.add_zero])
  rw [show f_RE_hollowCount_L4 μ FU 0 0 = some x from h1, h2]
  rfl
theorem MO_counts (hz : Sz w n ld) (M : ReM w n ld ht ν) (V : ∀ f, ld f = true → ν.1 69 f = dn f) (y : Int32) : f_MO_count_L69 ν y FU 0 0 = some (lN (fb_ct (fun f => ld f && (decide (y = 1) || decide (dn f = -3))) n)) := by
  have hn := hz.2.2.1
  obtain ⟨x, h1, h2⟩ := lp_0 (fun i a k => f_MO_count_L69 ν y i a (nI k)) (fun k a => a = lN (fb_ct (fun f => ld f && (decide (y = 1) || decide (dn f = -3))) k)) (fun a => a = lN (fb_ct (fun f => ld f && (decide (y = 1) || decide (dn f = -3))) n)) n 0 (by omega) rfl
    (fun i a g => ⟨a, by
      show f_MO_count_L69 ν y (i + 1) a (nI n) = _
      rw [f_MO_count_L69.eq_2, M.2.1, if_pos (Int32.le_refl _)], g⟩)
    (fun i a k hk g => by
      subst g
      refine ⟨lN (fb_ct (fun f => ld f && (decide (y = 1) || decide (dn f = -3))) (k + 1)), rfl, ?_⟩
      show f_MO_count_L69 ν y (i + 1) _ (nI k) = f_MO_count_L69 ν y i _ (nI (k + 1))
      rw [f_MO_count_L69.eq_2, M.2.1, if_neg (nI_ge hk (by omega)), nI_1, fb_ct_succ]
      simp only [G_n (show k < 64 by omega) (show 64 < 2147483648 by decide)]
      rw [cl (by omega), M.2.2.1 k hk]
      by_cases c : ld k = true
      · rw [if_pos c, if_pos rfl, V k c]
        by_cases d : y = 1
        · rw [if_pos d, if_pos (show (ld k && (decide (y = 1) || decide (dn k = -3))) = true by simp [c, d]), ← lN_1]
          rfl
        · rw [if_neg d]
          by_cases e : dn k = -3
          · rw [if_pos e, if_pos (show (ld k && (decide (y = 1) || decide (dn k = -3))) = true by simp [c, e]), ← lN_1]
            rfl
          · rw [if_neg e, if_neg (show ¬ (ld k && (decide (y = 1) || decide (dn k = -3))) = true by simp [d, e])]
            simp only [Option.bind_some]
            rw [Int64.add_zero]; rfl
      · rw [if_neg c, if_neg n10, if_neg (show ¬ (ld k && (decide (y = 1) || decide (dn k = -3))) = true by simp [c])]
        simp only [Option.bind_some]
        rw [Int64.add_zero]; rfl)
  rw [show f_MO_count_L69 ν y FU 0 0 = some x from h1, h2]
theorem LK_numberThere (hL : LkC σ mo th wa μ) (hN : qN σ ≤ 35) : f_LK_numberThere μ = some (nI (fb_ct th (qN σ))) := by
  unfold f_LK_numberThere
  obtain ⟨x, h1, h2⟩ := lp_0 (fun i a k => f_LK_numberThere_L4 μ i a (nI k)) (fun k a => a = nI (fb_ct th k)) (fun a => a = nI (fb_ct th (qN σ))) (qN σ) 0 (by omega) rfl
    (fun i a g => ⟨a, by
      show f_LK_numberThere_L4 μ (i + 1) a (nI (qN σ)) = _
      rw [f_LK_numberThere_L4.eq_2, hL.1, if_pos (Int32.le_refl _)], g⟩)
    (fun i a k hk g => by
      subst g
      refine ⟨nI (fb_ct th (k + 1)), rfl, ?_⟩
      show f_LK_numberThere_L4 μ (i + 1) _ (nI k) = f_LK_numberThere_L4 μ i _ (nI (k + 1))
      rw [f_LK_numberThere_L4.eq_2, hL.1, if_neg (nI_ge hk (by omega)), nI_1, fb_ct_succ, G_n (by omega) (by decide), cl (by omega), (hL.2 k hk).2.2.2.2.2.2.1]
      by_cases c : th k = true
      · rw [if_pos c, if_pos c, if_neg n10]; simp only [Option.bind_some, nI_1]
      · rw [if_neg c, if_neg c, if_pos rfl]; simp only [Option.bind_some, nI_1, Nat.add_zero])
  rw [show f_LK_numberThere_L4 μ FU 0 0 = some x from h1, h2]
  rfl
def waS (th : Nat → Bool) (wa : Nat → Int32) : Nat → Int64
  | 0 => 0
  | k + 1 => waS th wa k + (if th k = true then (wa k).toInt64 else 0)
theorem LK_waterThere (hL : LkC σ mo th wa μ) (hN : qN σ ≤ 35) : f_LK_waterThere μ = some (waS th wa (qN σ)) := by
  unfold f_LK_waterThere
  obtain ⟨x, h1, h2⟩ := lp_0 (fun i a k => f_LK_waterThere_L4 μ i a (nI k)) (fun k a => a = waS th wa k) (fun a => a = waS th wa (qN σ)) (qN σ) 0 (by omega) rfl
    (fun i a g => ⟨a, by
      show f_LK_waterThere_L4 μ (i + 1) a (nI (qN σ)) = _
      rw [f_LK_waterThere_L4.eq_2, hL.1, if_pos (Int32.le_refl _)], g⟩)
    (fun i a k hk g => by
      subst g
      refine ⟨waS th wa (k + 1), rfl, ?_⟩
      show f_LK_waterThere_L4 μ (i + 1) _ (nI k) = f_LK_waterThere_L4 μ i (waS th wa k + (if th k = true then (wa k).toInt64 else 0)) (nI (k + 1))
      rw [f_LK_waterThere_L4.eq_2, hL.1, if_neg (nI_ge hk (by omega)), nI_1, G_n (by omega) (by decide), G_n (by omega) (by decide), cl (by omega), (hL.2 k hk).2.2.2.2.2.2.1, (hL.2 k hk).2.2.2.2.2.2.2]
      by_cases c : th k = true
      · rw [if_pos c, if_pos c, if_neg n10]; rfl
      · rw [if_neg c, if_neg c, if_pos rfl, Int64.add_zero]; rfl)
  rw [show f_LK_waterThere_L4 μ FU 0 0 = some x from h1, h2]
  rfl
theorem MO_number (hL : LkM σ th wa ν) (hN : qN σ ≤ 35) : f_MO_count_L130 ν 4 FU 0 0 = some (lN (fb_ct th (qN σ))) := by
  obtain ⟨x, h1, h2⟩ := lp_0 (fun i a k => f_MO_count_L130 ν 4 i a (nI k)) (fun k a => a = lN (fb_ct th k)) (fun a => a = lN (fb_ct th (qN σ))) (qN σ) 0 (by omega) rfl
    (fun i a g => ⟨a, by
      show f_MO_count_L130 ν 4 (i + 1) a (nI (qN σ)) = _
      rw [f_MO_count_L130.eq_2, hL.1, if_pos (Int32.le_refl _)], g⟩)
    (fun i a k hk g => by
      subst g
      refine ⟨lN (fb_ct th (k + 1)), rfl, ?_⟩
      show f_MO_count_L130 ν 4 (i + 1) _ (nI k) = f_MO_count_L130 ν 4 i _ (nI (k + 1))
      rw [f_MO_count_L130.eq_2, hL.1, if_neg (nI_ge hk (by omega)), nI_1, fb_ct_succ, G_n (by omega) (by decide), cl (by omega), (hL.2 k hk).2.2.2.2.2.2.1]
      by_cases c : th k = true
      · rw [if_pos c, if_pos c, if_neg n10, if_pos rfl, ← lN_1]; rfl
      · rw [if_neg c, if_neg c, if_pos rfl]
        simp only [Option.bind_some]
        rw [Int64.add_zero]; rfl)
  rw [show f_MO_count_L130 ν 4 FU 0 0 = some x from h1, h2]
theorem MO_water (hL : LkM σ th wa ν) (hN : qN σ ≤ 35) : f_MO_count_L130 ν 5 FU 0 0 = some (waS th wa (qN σ)) := by
  obtain ⟨x, h1, h2⟩ := lp_0 (fun i a k => f_MO_count_L130 ν 5 i a (nI k)) (fun k a => a = waS th wa k) (fun a => a = waS th wa (qN σ)) (qN σ) 0 (by omega) rfl
    (fun i a g => ⟨a, by
      show f_MO_count_L130 ν 5 (i + 1) a (nI (qN σ)) = _
      rw [f_MO_count_L130.eq_2, hL.1, if_pos (Int32.le_refl _)], g⟩)
    (fun i a k hk g => by
      subst g
      refine ⟨waS th wa (k + 1), rfl, ?_⟩
      show f_MO_count_L130 ν 5 (i + 1) _ (nI k) = f_MO_count_L130 ν 5 i (waS th wa k + (if th k = true then (wa k).toInt64 else 0)) (nI (k + 1))
      rw [f_MO_count_L130.eq_2, hL.1, if_neg (nI_ge hk (by omega)), nI_1, G_n (by omega) (by decide), G_n (by omega) (by decide), cl (by omega), (hL.2 k hk).2.2.2.2.2.2.1, (hL.2 k hk).2.2.2.2.2.2.2]
      by_cases c : th k = true
      · rw [if_pos c, if_pos c, if_neg n10, if_neg (by decide)]; rfl
      · rw [if_neg c, if_neg c, if_pos rfl]; rfl)
  rw [show f_MO_count_L130 ν 5 FU 0 0 = some x from h1, h2]
theorem j_count (a : Int32) (hJ : JJ μ ν) : ∃ r : Int64, f_LR_count μ a = some r ∧ f_MO_count ν a = some r ∧ JJ μ ν := by
  suffices h : ∃ r : Int64, f_LR_count μ a = some r ∧ f_MO_count ν a = some r by
    obtain ⟨r, h1, h2⟩ := h
    exact ⟨r, h1, h2, hJ⟩
  unfold f_LR_count f_MO_count
  rcases hJ.2 with ⟨q1, q2⟩ | ⟨q1, q2, hL⟩
  · rw [q1, q2, if_pos rfl, if_pos rfl]
    exact ⟨_, rfl, rfl⟩
  obtain ⟨w, n, m, ld, ht, od, dn, we, σ, th, wa, ⟨hz, hh, hm, R, B, O, M, D, V, V2⟩, T, LC, LM, W, h6, h7⟩ := hL
  have hn := hz.2.2.1
  have hN := T.2.1
  rw [q1, q2, if_neg n10, if_neg n10]
  by_cases d0 : a = 0
  · rw [if_pos d0, if_pos d0, R.2.1, M.2.1]; exact ⟨_, rfl, rfl⟩
  rw [if_neg d0, if_neg d0]
  by_cases d1 : a = 1
  · rw [if_pos d1, if_pos d1, O.1, d1, MO_counts hz M (fun f hf => (V f hf).2.2.1) 1, OrC_ct O hz.2.2.2.2]
    have e : (fun f => ld f && (decide ((1 : Int32) = 1) || decide (dn f = -3))) = ld := by
      funext f; simp
    rw [e, nI_l (by have := fb_ct_le ld n; omega)]
    exact ⟨_, rfl, rfl⟩
  rw [if_neg d1, if_neg d1]
  by_cases d2 : a = 2
  · rw [if_pos d2, if_pos d2, d2, MO_counts hz M (fun f hf => (V f hf).2.2.1) 2, RE_hollows hz R (fun f hf => (V f hf).1)]
    have e : (fun f => ld f && (decide ((2 : Int32) = 1) || decide (dn f = -3))) = (fun f => ld f && decide (dn f = -3)) := by
      funext f
      rw [show decide ((2 : Int32) = 1) = false from rfl, Bool.false_or]
    rw [e]
    simp only [Option.bind_some]
    rw [nI_l (by have := fb_ct_le (fun f => ld f && decide (dn f = -3)) n; omega)]
    exact ⟨_, rfl, rfl⟩
  rw [if_neg d2, if_neg d2]
  by_cases d3 : a = 3
  · rw [if_pos d3, if_pos d3, LC.1, LM.1]; exact ⟨_, rfl, rfl⟩
  rw [if_neg d3, if_neg d3]
  by_cases d4 : a = 4
  · rw [if_pos d4, if_pos d4, d4, LK_numberThere LC hN, MO_number LM hN]
    simp only [Option.bind_some]
    rw [nI_l (by have := fb_ct_le th (qN σ); omega)]
    exact ⟨_, rfl, rfl⟩
  rw [if_neg d4, if_neg d4]
  by_cases d5 : a = 5
  · rw [if_pos d5, if_pos d5, d5, LK_waterThere LC hN, MO_water LM hN]
    exact ⟨_, rfl, rfl⟩
  rw [if_neg d5, if_neg d5]
  by_cases d6 : a = 6
  · rw [if_pos d6, if_pos d6, h6]; exact ⟨_, rfl, rfl⟩
  rw [if_neg d6, if_neg d6]
  by_cases d7 : a = 7
  · rw [if_pos d7, if_pos d7, h7]; exact ⟨_, rfl, rfl⟩
  rw [if_neg d7, if_neg d7]
  exact ⟨_, rfl, rfl⟩
end ASK2
