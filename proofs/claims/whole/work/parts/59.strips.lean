/-! ===== strips ===== -/
theorem nge (B : Int32) {a b : Nat} (hB : B = nI b) (h : a < b) (hb : b < 2147483648) : ¬ B ≤ nI a := by rw [hB]; exact nI_ge h hb
theorem nle (B : Int32) {a b : Nat} (hB : B = nI b) (h : b ≤ a) (hb : a < 2147483648) : B ≤ nI a := by rw [hB]; exact nI_le h hb
theorem MOin (x a b : Int32) : f_MO_in x.toInt64 a.toInt64 b.toInt64 = if x < a then 0 else if b < x then 0 else 1 := by
  unfold f_MO_in
  by_cases h1 : x < a
  · rw [if_pos h1, if_pos (lg_lt0.mpr ((fa_wide_lt x a).mpr h1))]
  · rw [if_neg h1, if_neg (fun h => h1 ((fa_wide_lt x a).mp (lg_lt0.mp h)))]
    by_cases h2 : b < x
    · rw [if_pos h2, if_pos (lg_gt0.mpr ((fa_wide_lt b x).mpr h2))]
    · rw [if_neg h2, if_neg (fun h => h2 ((fa_wide_lt b x).mp (lg_gt0.mp h)))]
theorem MOin_no {x a b : Int32} (h : x < a ∨ b < x) : f_MO_in x.toInt64 a.toInt64 b.toInt64 = 0 := by
  rw [MOin]
  by_cases h1 : x < a
  · rw [if_pos h1]
  · rw [if_neg h1, if_pos (h.resolve_left h1)]
theorem MOin_yes {x a b : Int32} (h1 : a ≤ x) (h2 : x ≤ b) : f_MO_in x.toInt64 a.toInt64 b.toInt64 = 1 := by
  rw [MOin, if_neg (Int32.not_lt.mpr h1), if_neg (Int32.not_lt.mpr h2)]
theorem Bg0 {α : Type} {x : Option α} : Bg 0 x = x := if_pos (by decide)
theorem Bg1 {α : Type} {x : Option α} : Bg 1 x = x := if_pos (by decide)
theorem ix12 (r k : Nat) : (12 * nI r + nI k : Int32) = nI (12 * r + k) := by
  show nI 12 * nI r + nI k = _
  rw [pk_mul, nI_add]
/-- a number is below 0, or too large, or an index -/
theorem MO_isStrip_no {x : Int32} (h : x < 0 ∨ nI 8 ≤ x) : f_MO_isStrip x = some 0 := by
  have e : f_MO_in x.toInt64 0 7 = 0 := MOin_no (x := x) (a := 0) (b := 7) (h.imp id (fun h => by
    rw [fa_le] at h
    rw [fa_lt]
    have e1 : (nI 8).toInt = 8 := rfl
    have e2 : (7 : Int32).toInt = 7 := rfl
    omega))
  unfold f_MO_isStrip
  rw [e, Bg0]
theorem MO_isStrip_yes {r : Nat} (h : r < 8) : f_MO_isStrip (nI r) = some 1 := by
  have e : f_MO_in (nI r).toInt64 0 7 = 1 := MOin_yes (x := nI r) (a := 0) (b := 7) (by
    rw [fa_le, nI_toInt (by omega)]
    have e2 : (0 : Int32).toInt = 0 := rfl
    omega) (by
    rw [fa_le, nI_toInt (by omega)]
    have e2 : (7 : Int32).toInt = 7 := rfl
    omega)
  unfold f_MO_isStrip
  rw [e, Bg1]
theorem LR_isStrip_no {x : Int32} (h : x < 0 ∨ nI 8 ≤ x) : f_LR_isStrip x = 0 := by
  unfold f_LR_isStrip
  by_cases h1 : x < 0
  · rw [if_pos h1]
  · rw [if_neg h1, if_pos (show 8 ≤ x from h.resolve_left h1)]
theorem LR_isStrip_yes {r : Nat} (h : r < 8) : f_LR_isStrip (nI r) = 1 := by
  unfold f_LR_isStrip
  rw [if_neg (nI_pos (by omega)), if_neg (nge 8 (b := 8) rfl h (by decide))]
theorem ixr (x : Int32) : (x < 0 ∨ nI 8 ≤ x) ∨ ∃ r, r < 8 ∧ x = nI r := by
  rcases pk_ix x (n := 8) (by decide) with h | h | h
  · exact Or.inl (Or.inl h)
  · exact Or.inl (Or.inr h)
  · exact Or.inr h
def StT (μ ν : Mem) : Prop := ∀ r, r < 8 → μ.1 (2 + r) 1 = ν.1 64 r ∧ μ.1 (2 + r) 2 = ν.1 65 r ∧ (-1 ≤ (ν.1 64 r).toInt ∧ (ν.1 64 r).toInt ≤ 2) ∧ (0 ≤ (ν.1 65 r).toInt ∧ (ν.1 65 r).toInt ≤ 12) ∧ (ν.1 64 r = -1 → ν.1 65 r = 0) ∧ ∀ i, i < 12 → μ.1 (10 + r) i = ν.1 66 (12 * r + i)
/-- what the acts on strips leave alone -/
def Fr (μ μ' ν ν' : Mem) : Prop := (∀ q, (q < 2 ∨ 18 ≤ q) → μ'.1 q = μ.1 q) ∧ μ'.2 = μ.2 ∧ (∀ q, (q < 64 ∨ 67 ≤ q) → q ≠ 80 → ν'.1 q = ν.1 q) ∧ ν'.2 = ν.2
theorem Fr.rf {μ ν : Mem} : Fr μ μ ν ν := ⟨fun _ _ => rfl, rfl, fun _ _ _ => rfl, rfl⟩
theorem ST_become (μ : Mem) {r : Nat} (hr : r < 8) (k n : Int32) : ∃ μ', f_ST_become μ r k n = some μ' ∧ μ'.1 (2 + r) 1 = k ∧ μ'.1 (2 + r) 2 = n ∧ (∀ i, i < 12 → μ'.1 (10 + r) i = 0) ∧ (∀ q, q ≠ 2 + r → q ≠ 10 + r → μ'.1 q = μ.1 q) ∧ μ'.2 = μ.2 := by
  obtain ⟨v, h1, h2⟩ := lp_0 (fun n a k => f_ST_become_L12 r n a (nI k)) (fun j a => a.1 (2 + r) 1 = k ∧ a.1 (2 + r) 2 = n ∧ (∀ i, i < j → a.1 (10 + r) i = 0) ∧ (∀ q, q ≠ 2 + r → q ≠ 10 + r → a.1 q = μ.1 q) ∧ a.2 = μ.2) (fun μ' => μ'.1 (2 + r) 1 = k ∧ μ'.1 (2 + r) 2 = n ∧ (∀ i, i < 12 → μ'.1 (10 + r) i = 0) ∧ (∀ q, q ≠ 2 + r → q ≠ 10 + r → μ'.1 q = μ.1 q) ∧ μ'.2 = μ.2) 12 (sI (sI μ (2 + r) 1 k) (2 + r) 2 n) (by decide)
    ⟨by rw [sI_off (by decide), sI_at], by rw [sI_at], fun i hi => absurd hi (Nat.not_lt_zero i), fun q h1 h2 => by rw [sI_ne h1, sI_ne h1], rfl⟩
    (fun m a h => ⟨a, by show f_ST_become_L12 r (m + 1) a (nI 12) = _; rw [f_ST_become_L12.eq_2, if_pos (by decide)], h⟩)
    (fun m a j hj h => ⟨sI a (10 + r) j 0, ⟨by rw [sI_ne (by omega)]; exact h.1, by rw [sI_ne (by omega)]; exact h.2.1, fun i hi => by
        by_cases e : i = j
        · subst e; exact sI_at
        · rw [sI_off e]; exact h.2.2.1 i (by omega), fun q h1 h2 => by rw [sI_ne h2]; exact h.2.2.2.1 q h1 h2, h.2.2.2.2⟩, by
      show f_ST_become_L12 r (m + 1) a (nI j) = f_ST_become_L12 r m _ (nI (j + 1))
      rw [f_ST_become_L12.eq_2, if_neg (nge 12 (b := 12) rfl hj (by decide)), G_n hj (by decide), cl (by omega), nI_1]⟩)
  refine ⟨v, ?_, h2⟩
  unfold f_ST_become
  rw [show f_ST_become_L12 r FU (sI (sI μ (2 + r) 1 k) (2 + r) 2 n) 0 = some v from h1]
  rfl
theorem MO_strip_L (ν : Mem) {r : Nat} (hr : r < 8) : ∃ ν', f_MO_strip_L69 (nI r) FU ν 0 = some ν' ∧ (∀ i, i < 12 → ν'.1 66 (12 * r + i) = 0) ∧ (∀ j, (j < 12 * r ∨ 12 * r + 12 ≤ j) → ν'.1 66 j = ν.1 66 j) ∧ (∀ q, q ≠ 66 → ν'.1 q = ν.1 q) ∧ ν'.2 = ν.2 := by
  exact lp_0 (fun n a k => f_MO_strip_L69 (nI r) n a (nI k)) (fun m a => (∀ i, i < m → a.1 66 (12 * r + i) = 0) ∧ (∀ j, (j < 12 * r ∨ 12 * r + 12 ≤ j) → a.1 66 j = ν.1 66 j) ∧ (∀ q, q ≠ 66 → a.1 q = ν.1 q) ∧ a.2 = ν.2) _ 12 ν (by decide)
    ⟨fun i hi => absurd hi (Nat.not_lt_zero i), fun _ _ => rfl, fun _ _ => rfl, rfl⟩
    (fun m a h => ⟨a, by show f_MO_strip_L69 (nI r) (m + 1) a (nI 12) = _; rw [f_MO_strip_L69.eq_2, if_pos (by decide)], h⟩)
    (fun m a j hj h => ⟨sI a 66 (12 * r + j) 0, ⟨fun i hi => by
        by_cases e : i = j
        · subst e; exact sI_at
        · rw [sI_off (by omega)]; exact h.1 i (by omega), fun i hi => by rw [sI_off (by omega)]; exact h.2.1 i hi, fun q h1 => by rw [sI_ne h1]; exact h.2.2.1 q h1, h.2.2.2⟩, by
      show f_MO_strip_L69 (nI r) (m + 1) a (nI j) = f_MO_strip_L69 (nI r) m _ (nI (j + 1))
      rw [f_MO_strip_L69.eq_2, if_neg (nge 12 (b := 12) rfl hj (by decide)), ix12, G_n (by omega) (by decide), cl (by omega), nI_1]⟩)
theorem st_strip (μ ν : Mem) (a b c : Int32) (h : StT μ ν) : ∃ (r : Int32) (μ' ν' : Mem), f_LR_strip μ a b c = some (r, μ') ∧ f_MO_strip ν a b c = some (r, ν') ∧ StT μ' ν' ∧ Fr μ μ' ν ν' := by
  have e0 : (0 : Int32).toInt = 0 := rfl
  have e1 : (-1 : Int32).toInt = -1 := rfl
  have e2 : (2 : Int32).toInt = 2 := rfl
  have e12 : (12 : Int32).toInt = 12 := rfl
  -- what both do when they keep a row
  have keep : ∀ (r : Nat), r < 8 → ∀ (k n : Int32), (-1 ≤ k.toInt ∧ k.toInt ≤ 2) → (0 ≤ n.toInt ∧ n.toInt ≤ 12) → (k = -1 → n = 0) → ∃ (μ' ν' : Mem), f_ST_become μ r k n = some μ' ∧ f_MO_strip_L69 (nI r) FU (sI (sI ν 64 r k) 65 r n) 0 = some ν' ∧ StT μ' ν' ∧ Fr μ μ' ν ν' := by
    intro r hr k n hk hn hkn
    obtain ⟨μ', p1, p2, p3, p4, p5, p6⟩ := ST_become μ hr k n
    obtain ⟨ν', q1, q2, q3, q4, q5⟩ := MO_strip_L (sI (sI ν 64 r k) 65 r n) hr
    refine ⟨μ', ν', p1, q1, ?_, ⟨fun q hq => p5 q (by omega) (by omega), p6, fun q hq h80 => by rw [q4 q (by omega), sI_ne (by omega), sI_ne (by omega)], by rw [q5]; rfl⟩⟩
    intro r' hr'
    have w64 : ν'.1 64 r' = if r' = r then k else ν.1 64 r' := by
      rw [q4 64 (by decide), sI_ne (by decide)]
      by_cases e : r' = r
      · subst e; rw [if_pos rfl, sI_at]
      · rw [if_neg e, sI_off e]
    have w65 : ν'.1 65 r' = if r' = r then n else ν.1 65 r' := by
      rw [q4 65 (by decide)]
      by_cases e : r' = r
      · subst e; rw [if_pos rfl, sI_at]
      · rw [if_neg e, sI_off e, sI_ne (by decide)]
    by_cases e : r' = r
    · subst e
      rw [if_pos rfl] at w64 w65
      rw [w64, w65]
      exact ⟨p2, p3, hk, hn, hkn, fun i hi => by rw [p4 i hi, q2 i hi]⟩
    · rw [if_neg e] at w64 w65
      rw [w64, w65, p5 (2 + r') (by omega) (by omega), p5 (10 + r') (by omega) (by omega)]
      obtain ⟨g1, g2, g3, g4, g5, g6⟩ := h r' hr'
      exact ⟨g1, g2, g3, g4, g5, fun i hi => by rw [g6 i hi, q3 _ (by omega), sI_ne (by decide), sI_ne (by decide)]⟩
  unfold f_LR_strip f_MO_strip
  rcases ixr a with ha | ⟨r, hr, rfl⟩
  · rw [LR_isStrip_no ha, MO_isStrip_no ha]
    exact ⟨-1, μ, ν, rfl, rfl, h, Fr.rf⟩
  · rw [LR_isStrip_yes hr, MO_isStrip_yes hr, if_neg (by decide)]
    simp only [Option.bind_some]
    rw [if_neg (by decide : ¬ (1 : Int32) = 0)]
    by_cases hb1 : b < -1
    · rw [if_pos hb1, show f_MO_in b.toInt64 (-1) 2 = 0 from MOin_no (x := b) (a := -1) (b := 2) (Or.inl hb1), if_pos rfl]
      exact ⟨-1, μ, ν, rfl, rfl, h, Fr.rf⟩
    · rw [if_neg hb1]
      by_cases hb2 : b ≤ 2
      · rw [if_pos hb2, show f_MO_in b.toInt64 (-1) 2 = 1 from MOin_yes (x := b) (a := -1) (b := 2) (Int32.not_lt.mp hb1) hb2, if_neg (by decide : ¬ (1 : Int32) = 0)]
        rw [fa_lt, e1] at hb1
        rw [fa_le, e2] at hb2
        by_cases hbm : b = -1
        · subst hbm
          rw [if_pos rfl, if_pos (by decide : (-1 : Int32) < 0), if_pos (by decide : (-1 : Int32) < 0), G_n hr (by decide), G_n hr (by decide), if_neg (by decide : ¬ (0 : Int32) ≤ -1)]
          simp only [Option.bind_some]
          rw [G_n hr (by decide), cl (by omega)]
          obtain ⟨μ', ν', k1, k2, k3, k4⟩ := keep r hr (-1) 0 (by decide) (by decide) (fun _ => rfl)
          rw [k1, k2]
          exact ⟨0, μ', ν', rfl, rfl, k3, k4⟩
        · have hb0 : 0 ≤ b.toInt := by
            have : ¬ b.toInt = -1 := fun e => hbm ((fa_eq b (-1)).mpr (by rw [e1]; exact e))
            omega
          have hnl : ¬ b < 0 := by rw [fa_lt, e0]; omega
          have hle : (0 : Int32) ≤ b := by rw [fa_le, e0]; omega
          rw [if_neg hbm, if_neg hnl]
          by_cases hc : c ≤ 12
          · rw [if_pos hc, if_pos hc, if_neg hnl]
            by_cases hc0 : 0 ≤ c
            · rw [if_pos hc0, if_pos hc0, G_n hr (by decide), G_n hr (by decide), if_pos hle]
              simp only [Option.bind_some]
              rw [G_n hr (by decide), cl (by omega)]
              rw [fa_le, e12] at hc
              rw [fa_le, e0] at hc0
              obtain ⟨μ', ν', k1, k2, k3, k4⟩ := keep r hr b c ⟨by omega, hb2⟩ ⟨hc0, hc⟩ (fun e => absurd e hbm)
              rw [k1, k2]
              exact ⟨0, μ', ν', rfl, rfl, k3, k4⟩
            · rw [if_neg hc0, if_neg hc0]
              exact ⟨-13, μ, ν, rfl, rfl, h, Fr.rf⟩
          · rw [if_neg hc, if_neg hc]
            exact ⟨-1, μ, ν, rfl, rfl, h, Fr.rf⟩
      · rw [if_neg hb2, show f_MO_in b.toInt64 (-1) 2 = 0 from MOin_no (x := b) (a := -1) (b := 2) (Or.inr (Int32.not_le.mp hb2)), if_pos rfl]
        exact ⟨-1, μ, ν, rfl, rfl, h, Fr.rf⟩
