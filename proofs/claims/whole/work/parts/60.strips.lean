/-! ===== put, told, copy ===== -/
theorem ge_nI {x : Int32} (h : 0 ≤ x.toInt) : ∃ k : Nat, x = nI k ∧ (k : Int) = x.toInt ∧ k < 2147483648 := by
  obtain ⟨j, h1, h2⟩ := nI_of (x := x) (by rw [fa_lt]; have : (0 : Int32).toInt = 0 := rfl; omega)
  exact ⟨j, h2, by rw [h2, nI_toInt h1], h1⟩
theorem ST_hasPlace {μ : Mem} {r n : Nat} (hn : μ.1 (2 + r) 2 = nI n) (hn12 : n ≤ 12) (x : Int32) : (f_ST_hasPlace μ r x = 0 ∧ ¬ (0 ≤ x.toInt ∧ x.toInt < n)) ∨ (f_ST_hasPlace μ r x = 1 ∧ ∃ i, i < n ∧ x = nI i) := by
  unfold f_ST_hasPlace
  have e0 : (0 : Int32).toInt = 0 := rfl
  by_cases h1 : x < 0
  · rw [if_pos h1]
    rw [fa_lt, e0] at h1
    exact Or.inl ⟨rfl, by omega⟩
  · rw [if_neg h1, hn]
    rw [fa_lt, e0] at h1
    by_cases h2 : nI n ≤ x
    · rw [if_pos h2]
      rw [fa_le, nI_toInt (by omega)] at h2
      exact Or.inl ⟨rfl, by omega⟩
    · rw [if_neg h2]
      rw [fa_le, nI_toInt (by omega)] at h2
      obtain ⟨k, g1, g2, g3⟩ := ge_nI (x := x) (by omega)
      exact Or.inr ⟨rfl, k, by omega, g1⟩
theorem strip_len {μ ν : Mem} (h : StT μ ν) {r : Nat} (hr : r < 8) : ∃ n, n ≤ 12 ∧ μ.1 (2 + r) 2 = nI n ∧ ν.1 65 r = nI n := by
  obtain ⟨g1, g2, g3, g4, g5, g6⟩ := h r hr
  obtain ⟨k, e1, e2, e3⟩ := ge_nI (x := ν.1 65 r) g4.1
  exact ⟨k, by omega, by rw [g2]; exact e1, e1⟩
theorem refusal {μ ν : Mem} (h : StT μ ν) (a b : Int32) : ∃ v, f_LR_refusalOfPlace μ a b = some v ∧ f_MO_against ν a b = some v ∧ (v = 0 → ∃ r i, r < 8 ∧ i < 12 ∧ a = nI r ∧ b = nI i) := by
  have e0 : (0 : Int32).toInt = 0 := rfl
  have em : (-1 : Int32).toInt = -1 := rfl
  unfold f_LR_refusalOfPlace f_MO_against
  rcases ixr a with ha | ⟨r, hr, rfl⟩
  · rw [LR_isStrip_no ha, MO_isStrip_no ha]
    exact ⟨-1, rfl, rfl, fun h => absurd h (by decide)⟩
  · rw [LR_isStrip_yes hr, MO_isStrip_yes hr, if_neg (by decide)]
    simp only [Option.bind_some]
    rw [if_neg (by decide : ¬ (1 : Int32) = 0)]
    simp only [G_n hr (show 8 < 2147483648 by decide)]
    rw [cl (by omega)]
    obtain ⟨g1, g2, g3, g4, g5, g6⟩ := h r hr
    obtain ⟨n, n12, hn1, hn2⟩ := strip_len h hr
    by_cases hk : μ.1 (2 + r) 1 = -1
    · rw [if_pos hk]
      rw [g1] at hk
      rw [if_neg (by rw [hk]; decide)]
      exact ⟨-11, rfl, rfl, fun h => absurd h (by decide)⟩
    · rw [if_neg hk]
      rw [g1] at hk
      have hk0 : (0 : Int32) ≤ ν.1 64 r := by
        rw [fa_le, e0]
        have : ¬ (ν.1 64 r).toInt = -1 := fun e => hk ((fa_eq _ _).mpr (by rw [em]; exact e))
        omega
      rw [if_pos hk0]
      have es : ((ν.1 65 r) - 1).toInt = (n : Int) - 1 := by
        rw [hn2]
        have := pk_sub_toInt (a := n) (b := 1) (by omega) (by decide)
        exact this
      rcases ST_hasPlace hn1 n12 b with ⟨h1, h2⟩ | ⟨h1, i, hi, rfl⟩
      · rw [h1, if_pos rfl]
        have : f_MO_in b.toInt64 0 ((ν.1 65 r - 1).toInt64) = 0 := MOin_no (x := b) (a := 0) (b := ν.1 65 r - 1) (by
          rw [fa_lt, fa_lt, e0, es]; omega)
        rw [this, if_pos rfl]
        exact ⟨-12, rfl, rfl, fun h => absurd h (by decide)⟩
      · rw [h1, if_neg (by decide)]
        have : f_MO_in (nI i).toInt64 0 ((ν.1 65 r - 1).toInt64) = 1 := MOin_yes (x := nI i) (a := 0) (b := ν.1 65 r - 1) (by rw [fa_le, e0, nI_toInt (by omega)]; omega) (by
          rw [fa_le, es, nI_toInt (by omega)]; omega)
        rw [this, if_neg (by decide)]
        exact ⟨0, rfl, rfl, fun _ => ⟨r, i, hr, by omega, rfl, rfl⟩⟩
theorem st_put (μ ν : Mem) (a b c : Int32) (h : StT μ ν) : ∃ (r : Int32) (μ' ν' : Mem), f_LR_put μ a b c = some (r, μ') ∧ f_MO_put ν a b c = some (r, ν') ∧ StT μ' ν' ∧ Fr μ μ' ν ν' := by
  obtain ⟨v, h1, h2, h3⟩ := refusal h a b
  unfold f_LR_put f_MO_put
  rw [h1, h2]
  simp only [Option.bind_some]
  by_cases hv : v = 0
  · obtain ⟨r, i, hr, hi, rfl, rfl⟩ := h3 hv
    subst hv
    obtain ⟨g1, g2, g3, g4, g5, g6⟩ := h r hr
    simp only [if_true, G_n hr (show 8 < 2147483648 by decide)]
    rw [cl (by omega)]
    unfold f_ST_keep
    rw [g1]
    have key : ∀ w : Int32, StT (sI μ (10 + r) i w) (sI ν 66 (12 * r + i) w) ∧ Fr μ (sI μ (10 + r) i w) ν (sI ν 66 (12 * r + i) w) := by
      intro w
      refine ⟨fun r' hr' => ?_, fun q hq => sI_ne (by omega), rfl, fun q hq _ => sI_ne (by omega), rfl⟩
      rw [sI_ne (by omega : 2 + r' ≠ 10 + r), sI_ne (by decide : (64 : Nat) ≠ 66), sI_ne (by decide : (65 : Nat) ≠ 66)]
      obtain ⟨f1, f2, f3, f4, f5, f6⟩ := h r' hr'
      refine ⟨f1, f2, f3, f4, f5, fun j hj => ?_⟩
      by_cases e : r' = r
      · subst e
        by_cases e2 : j = i
        · subst e2; rw [sI_at, sI_at]
        · rw [sI_off e2, sI_off (by omega)]; exact f6 j hj
      · rw [sI_ne (by omega), sI_off (by omega)]; exact f6 j hj
    by_cases k0 : ν.1 64 r = 0
    · simp only [if_pos k0]
      simp only [Option.bind_some]
      rw [G_n hi (by decide), ix12, G_n (by omega) (by decide), cl (by omega), cl (by omega)]
      obtain ⟨t1, t2⟩ := key c.toInt8.toInt32
      exact ⟨0, _, _, rfl, rfl, t1, t2⟩
    · simp only [if_neg k0]
      by_cases k1 : ν.1 64 r = 1
      · simp only [if_pos k1]
        simp only [Option.bind_some]
        rw [G_n hi (by decide), ix12, G_n (by omega) (by decide), cl (by omega), cl (by omega)]
        obtain ⟨t1, t2⟩ := key c.toInt16.toInt32
        exact ⟨0, _, _, rfl, rfl, t1, t2⟩
      · simp only [if_neg k1]
        simp only [Option.bind_some]
        rw [G_n hi (by decide), ix12, G_n (by omega) (by decide), cl (by omega), cl (by omega)]
        obtain ⟨t1, t2⟩ := key c
        exact ⟨0, _, _, rfl, rfl, t1, t2⟩
  · rw [if_neg hv, if_neg hv]
    exact ⟨v, μ, ν, rfl, rfl, h, Fr.rf⟩
theorem st_told (μ ν : Mem) (a b : Int32) (h : StT μ ν) : ∃ (r : Int64), f_LR_told μ a b = some r ∧ f_MO_told ν a b = some r := by
  obtain ⟨v, h1, h2, h3⟩ := refusal h a b
  unfold f_LR_told f_MO_told
  rw [h1, h2]
  simp only [Option.bind_some]
  by_cases hv : v = 0
  · obtain ⟨r, i, hr, hi, rfl, rfl⟩ := h3 hv
    obtain ⟨g1, g2, g3, g4, g5, g6⟩ := h r hr
    rw [if_pos hv, if_pos hv, G_n hr (by decide), G_n hi (by decide), ix12, G_n (by omega) (by decide), cl (by omega), cl (by omega), cl (by omega), g6 i hi]
    exact ⟨_, rfl, rfl⟩
  · rw [if_neg hv, if_neg hv]
    exact ⟨_, rfl, rfl⟩
/-- whether a run of n places from i on is within -/
theorem ST_hasRun {μ : Mem} {r len : Nat} (hn : μ.1 (2 + r) 2 = nI len) (h12 : len ≤ 12) (i n : Int32) : f_ST_hasRun μ r i n = if 0 ≤ i.toInt ∧ 0 ≤ n.toInt ∧ i.toInt + n.toInt ≤ len then 1 else 0 := by
  have e0 : (0 : Int32).toInt = 0 := rfl
  unfold f_ST_hasRun
  rw [hn]
  by_cases h1 : i < 0
  · rw [if_pos h1]
    rw [fa_lt, e0] at h1
    rw [if_neg (by omega)]
  · rw [if_neg h1]
    rw [fa_lt, e0] at h1
    by_cases h2 : n < 0
    · rw [if_pos h2]
      rw [fa_lt, e0] at h2
      rw [if_neg (by omega)]
    · rw [if_neg h2]
      rw [fa_lt, e0] at h2
      by_cases h3 : nI len < i
      · rw [if_pos h3]
        rw [fa_lt, nI_toInt (by omega)] at h3
        rw [if_neg (by omega)]
      · rw [if_neg h3]
        rw [fa_lt, nI_toInt (by omega)] at h3
        have es : (nI len - i).toInt = (len : Int) - i.toInt := by
          rw [fb_subI (by rw [nI_toInt (by omega)]; omega) (by rw [nI_toInt (by omega)]; omega), nI_toInt (by omega)]
        by_cases h4 : nI len - i < n
        · rw [if_pos h4]
          rw [fa_lt, es] at h4
          rw [if_neg (by omega)]
        · rw [if_neg h4]
          rw [fa_lt, es] at h4
          rw [if_pos (by omega)]
theorem ix12b (r i k : Nat) : (12 * nI r + nI i + nI k : Int32) = nI (12 * r + i + k) := by rw [ix12, nI_add]
theorem MO_copy_L1 (ν : Mem) {r i n : Nat} (y3 y4 : Int32) (hr : r < 8) (h : i + n ≤ 12) : ∃ ν', f_MO_copy_L110 (nI r) (nI i) y3 y4 (nI n) FU ν 0 = some ν' ∧ (∀ k, k < n → ν'.1 80 k = ν.1 66 (12 * r + i + k)) ∧ (∀ q, q ≠ 80 → ν'.1 q = ν.1 q) ∧ ν'.2 = ν.2 := by
  exact lp_0 (fun m a k => f_MO_copy_L110 (nI r) (nI i) y3 y4 (nI n) m a (nI k)) (fun m a => (∀ k, k < m → a.1 80 k = ν.1 66 (12 * r + i + k)) ∧ (∀ q, q ≠ 80 → a.1 q = ν.1 q) ∧ a.2 = ν.2) _ n ν (by omega)
    ⟨fun k hk => absurd hk (Nat.not_lt_zero k), fun _ _ => rfl, rfl⟩
    (fun m a h => ⟨a, by show f_MO_copy_L110 (nI r) (nI i) y3 y4 (nI n) (m + 1) a (nI n) = _; rw [f_MO_copy_L110.eq_2, if_pos (Int32.le_refl _)], h⟩)
    (fun m a j hj g => ⟨sI a 80 j (ν.1 66 (12 * r + i + j)), ⟨fun k hk => by
        by_cases e : k = j
        · subst e; exact sI_at
        · rw [sI_off e]; exact g.1 k (by omega), fun q hq => by rw [sI_ne hq]; exact g.2.1 q hq, g.2.2⟩, by
      show f_MO_copy_L110 (nI r) (nI i) y3 y4 (nI n) (m + 1) a (nI j) = f_MO_copy_L110 (nI r) (nI i) y3 y4 (nI n) m _ (nI (j + 1))
      rw [f_MO_copy_L110.eq_2, if_neg (nI_ge (a := j) (b := n) hj (by omega)), ix12b, G_n (by omega) (by decide), G_n (by omega) (by decide), cl (by omega), cl (by omega), nI_1, g.2.1 66 (by decide)]⟩)
theorem MO_copy_L2 (ν : Mem) {t j n : Nat} (ht : t < 8) (h : j + n ≤ 12) : ∃ ν', f_MO_copy_L147 (nI t) (nI j) (nI n) FU ν 0 = some ν' ∧ (∀ k, k < n → ν'.1 66 (12 * t + j + k) = ν.1 80 k) ∧ (∀ q, (q < 12 * t + j ∨ 12 * t + j + n ≤ q) → ν'.1 66 q = ν.1 66 q) ∧ (∀ q, q ≠ 66 → ν'.1 q = ν.1 q) ∧ ν'.2 = ν.2 := by
  exact lp_0 (fun m a k => f_MO_copy_L147 (nI t) (nI j) (nI n) m a (nI k)) (fun m a => (∀ k, k < m → a.1 66 (12 * t + j + k) = ν.1 80 k) ∧ (∀ q, (q < 12 * t + j ∨ 12 * t + j + n ≤ q) → a.1 66 q = ν.1 66 q) ∧ (∀ q, q ≠ 66 → a.1 q = ν.1 q) ∧ a.2 = ν.2) _ n ν (by omega)
    ⟨fun k hk => absurd hk (Nat.not_lt_zero k), fun _ _ => rfl, fun _ _ => rfl, rfl⟩
    (fun m a h => ⟨a, by show f_MO_copy_L147 (nI t) (nI j) (nI n) (m + 1) a (nI n) = _; rw [f_MO_copy_L147.eq_2, if_pos (Int32.le_refl _)], h⟩)
    (fun m a i hi g => ⟨sI a 66 (12 * t + j + i) (ν.1 80 i), ⟨fun k hk => by
        by_cases e : k = i
        · subst e; exact sI_at
        · rw [sI_off (by omega)]; exact g.1 k (by omega), fun q hq => by rw [sI_off (by omega)]; exact g.2.1 q hq, fun q hq => by rw [sI_ne hq]; exact g.2.2.1 q hq, g.2.2.2⟩, by
      show f_MO_copy_L147 (nI t) (nI j) (nI n) (m + 1) a (nI i) = f_MO_copy_L147 (nI t) (nI j) (nI n) m _ (nI (i + 1))
      rw [f_MO_copy_L147.eq_2, if_neg (nI_ge (a := i) (b := n) hi (by omega)), G_n (by omega) (by decide), ix12b, G_n (by omega) (by decide), cl (by omega), cl (by omega), nI_1, g.2.2.1 80 (by decide)]⟩)
theorem wide_add {a b : Int32} : (a.toInt64 + b.toInt64).toInt = a.toInt + b.toInt := by
  have h1 := fb_rng a
  have h2 := fb_rng b
  rw [fb_addL (by rw [Int32.toInt_toInt64, Int32.toInt_toInt64]; omega) (by rw [Int32.toInt_toInt64, Int32.toInt_toInt64]; omega), Int32.toInt_toInt64, Int32.toInt_toInt64]
theorem st_copy (μ ν : Mem) (a b c d e : Int32) (h : StT μ ν) : ∃ (r : Int32) (μ' ν' : Mem), f_LR_copy μ a b c d e = some (r, μ') ∧ f_MO_copy ν a b c d e = some (r, ν') ∧ StT μ' ν' ∧ Fr μ μ' ν ν' := by
  have e0 : (0 : Int32).toInt = 0 := rfl
  have em : (-1 : Int32).toInt = -1 := rfl
  unfold f_LR_copy f_MO_copy
  rcases ixr a with ha | ⟨r, hr, rfl⟩
  · rw [LR_isStrip_no ha, MO_isStrip_no ha]
    exact ⟨-1, μ, ν, rfl, rfl, h, Fr.rf⟩
  rw [LR_isStrip_yes hr, MO_isStrip_yes hr, if_neg (by decide)]
  simp only [Option.bind_some]
  rw [if_neg (by decide : ¬ (1 : Int32) = 0)]
  rcases ixr c with hc | ⟨t, ht, rfl⟩
  · rw [LR_isStrip_no hc, MO_isStrip_no hc]
    exact ⟨-1, μ, ν, rfl, rfl, h, Fr.rf⟩
  rw [LR_isStrip_yes ht, MO_isStrip_yes ht, if_neg (by decide)]
  simp only [Option.bind_some]
  rw [if_neg (by decide : ¬ (1 : Int32) = 0)]
  simp only [G_n hr (show 8 < 2147483648 by decide), G_n ht (show 8 < 2147483648 by decide)]
  rw [cl (k := r) (by omega), cl (k := t) (by omega)]
  obtain ⟨g1, g2, g3, g4, g5, g6⟩ := h r hr
  obtain ⟨f1, f2, f3, f4, f5, f6⟩ := h t ht
  obtain ⟨n1, n12, hn1, hn2⟩ := strip_len h hr
  obtain ⟨n2, n22, hm1, hm2⟩ := strip_len h ht
  have neg : ∀ x : Int32, -1 ≤ x.toInt → (x < 0 ↔ x = -1) := by
    intro x hx
    rw [fa_lt, fa_eq, e0, em]
    omega
  by_cases k1 : μ.1 (2 + r) 1 = -1
  · rw [if_pos k1, if_pos (show ν.1 64 r < 0 from (neg _ g3.1).mpr (by rw [← g1]; exact k1))]
    exact ⟨-11, μ, ν, rfl, rfl, h, Fr.rf⟩
  rw [if_neg k1, if_neg (show ¬ ν.1 64 r < 0 from fun q => k1 (by rw [g1]; exact (neg _ g3.1).mp q))]
  by_cases k2 : μ.1 (2 + t) 1 = -1
  · rw [if_pos k2, if_neg (show ¬ 0 ≤ ν.1 64 t from fun q => (Int32.not_lt.mpr q) ((neg _ f3.1).mpr (by rw [← f1]; exact k2)))]
    exact ⟨-11, μ, ν, rfl, rfl, h, Fr.rf⟩
  rw [if_neg k2, if_pos (show 0 ≤ ν.1 64 t from Int32.not_lt.mp (fun q => k2 (by rw [f1]; exact (neg _ f3.1).mp q))), g1, f1]
  by_cases k3 : ν.1 64 r = ν.1 64 t
  · rw [if_pos k3, if_pos k3, ST_hasRun hn1 n12, ST_hasRun hm1 n22, hn2, hm2]
    by_cases h5 : e < 0
    · rw [if_pos h5]
      rw [fa_lt, e0] at h5
      rw [if_neg (show ¬ (0 ≤ b.toInt ∧ 0 ≤ e.toInt ∧ b.toInt + e.toInt ≤ n1) by omega), if_pos (rfl : (0 : Int32) = 0)]
      exact ⟨-12, μ, ν, rfl, rfl, h, Fr.rf⟩
    rw [if_neg h5]
    rw [fa_lt, e0] at h5
    by_cases h2 : b < 0
    · rw [if_pos h2]
      rw [fa_lt, e0] at h2
      rw [if_neg (show ¬ (0 ≤ b.toInt ∧ 0 ≤ e.toInt ∧ b.toInt + e.toInt ≤ n1) by omega), if_pos (rfl : (0 : Int32) = 0)]
      exact ⟨-12, μ, ν, rfl, rfl, h, Fr.rf⟩
    rw [if_neg h2]
    rw [fa_lt, e0] at h2
    by_cases h4 : d < 0
    · rw [if_pos h4]
      rw [fa_lt, e0] at h4
      rw [if_neg (show ¬ (0 ≤ d.toInt ∧ 0 ≤ e.toInt ∧ d.toInt + e.toInt ≤ n2) by omega), if_pos (rfl : (0 : Int32) = 0)]
      refine ⟨-12, μ, ν, ?_, rfl, h, Fr.rf⟩
      rw [ite_self]
    rw [if_neg h4]
    rw [fa_lt, e0] at h4
    by_cases h6 : b.toInt + e.toInt ≤ n1
    · rw [if_pos (show 0 ≤ b.toInt ∧ 0 ≤ e.toInt ∧ b.toInt + e.toInt ≤ n1 by omega), if_neg (by decide : ¬ (1 : Int32) = 0)]
      rw [if_neg (show ¬ 0 < lg_cmp (b.toInt64 + e.toInt64) (nI n1).toInt64 from fun q => by
        rw [lg_gt0, fa_lt64, wide_add, Int32.toInt_toInt64, nI_toInt (by omega)] at q
        omega)]
      by_cases h7 : d.toInt + e.toInt ≤ n2
      · rw [if_pos (show 0 ≤ d.toInt ∧ 0 ≤ e.toInt ∧ d.toInt + e.toInt ≤ n2 by omega), if_neg (by decide : ¬ (1 : Int32) = 0)]
        rw [if_pos (show lg_cmp (d.toInt64 + e.toInt64) (nI n2).toInt64 ≤ 0 from by
          rw [lg_le0, fa_le64, wide_add, Int32.toInt_toInt64, nI_toInt (by omega)]
          omega)]
        obtain ⟨i, rfl, hi, -⟩ := ge_nI (x := b) (by omega)
        obtain ⟨j, rfl, hj, -⟩ := ge_nI (x := d) (by omega)
        obtain ⟨n, rfl, hn, -⟩ := ge_nI (x := e) (by omega)
        have c1 : i + n ≤ 12 := by omega
        have c2 : j + n ≤ 12 := by omega
        rw [cl (k := i) (by omega), cl (k := j) (by omega), cl (k := n) (by omega)]
        unfold Cg
        rw [cl (k := i) (by omega), cl (k := j) (by omega), cl (k := n) (by omega), if_pos ⟨nI_pos (by omega), nI_pos (by omega), nI_pos (by omega), c1, c2⟩]
        obtain ⟨ν1, p1, p2, p3, p4⟩ := MO_copy_L1 ν (nI t) (nI j) hr c1
        obtain ⟨ν2, q1, q2, q3, q4, q5⟩ := MO_copy_L2 ν1 ht c2
        rw [p1]
        simp only [Option.bind_some]
        rw [q1]
        simp only [Option.bind_some]
        refine ⟨0, _, ν2, rfl, rfl, fun r' hr' => ?_, fun q hq => sR_ne (by omega), rfl, fun q hq h80 => by rw [q4 q (by omega), p3 q h80], by rw [q5, p4]⟩
        rw [sR_ne (by omega : 2 + r' ≠ 10 + t), q4 64 (by decide), q4 65 (by decide), p3 64 (by decide), p3 65 (by decide)]
        obtain ⟨t1, t2, t3, t4, t5, t6⟩ := h r' hr'
        refine ⟨t1, t2, t3, t4, t5, fun x hx => ?_⟩
        by_cases e : r' = t
        · subst e
          rw [sR_q]
          unfold va_cpy
          by_cases hin : j ≤ x ∧ x < j + n
          · rw [if_pos hin, g6 _ (by omega)]
            have : 12 * r' + x = 12 * r' + j + (x - j) := by omega
            rw [this, q2 _ (by omega), p2 _ (by omega), Nat.add_assoc]
          · rw [if_neg hin, q3 _ (by omega), p3 66 (by decide)]
            exact t6 x hx
        · rw [sR_ne (by omega), q3 _ (by omega), p3 66 (by decide)]
          exact t6 x hx
      · rw [if_neg (show ¬ (0 ≤ d.toInt ∧ 0 ≤ e.toInt ∧ d.toInt + e.toInt ≤ n2) by omega), if_pos (rfl : (0 : Int32) = 0)]
        rw [if_neg (show ¬ lg_cmp (d.toInt64 + e.toInt64) (nI n2).toInt64 ≤ 0 from fun q => by
          rw [lg_le0, fa_le64, wide_add, Int32.toInt_toInt64, nI_toInt (by omega)] at q
          omega)]
        exact ⟨-12, μ, ν, rfl, rfl, h, Fr.rf⟩
    · rw [if_neg (show ¬ (0 ≤ b.toInt ∧ 0 ≤ e.toInt ∧ b.toInt + e.toInt ≤ n1) by omega), if_pos (rfl : (0 : Int32) = 0)]
      rw [if_pos (show 0 < lg_cmp (b.toInt64 + e.toInt64) (nI n1).toInt64 from by
        rw [lg_gt0, fa_lt64, wide_add, Int32.toInt_toInt64, nI_toInt (by omega)]
        omega)]
      exact ⟨-12, μ, ν, rfl, rfl, h, Fr.rf⟩
  · rw [if_neg k3, if_neg k3]
    exact ⟨-14, μ, ν, rfl, rfl, h, Fr.rf⟩
