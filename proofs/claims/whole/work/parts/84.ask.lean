/-! ===== asking: fields, lakes that are there, hollows, ground, holds, area ===== -/
theorem n10 : ¬ (1 : Int32) = 0 := by decide
section ASK
variable {w n m : Nat} {ld : Nat → Bool} {ht : Nat → Int32} {od : Nat → Nat} {dn we : Nat → Int32} {σ : qLS} {th : Nat → Bool} {wa mo : Nat → Int32} {μ ν : Mem}
theorem MO_inN_yes {N k : Nat} (hN : N < 1000) (hk : k < N) : f_MO_in (nI k).toInt64 0 ((nI N - 1).toInt64) = 1 := by
  have e : (nI N - 1).toInt = (N : Int) - 1 := pk_sub_toInt (a := N) (b := 1) (by omega) (by decide)
  exact MOin_yes (x := nI k) (a := 0) (b := nI N - 1) (nI_pos' (by omega)) (by rw [fa_le, e, nI_toInt (by omega)]; omega)
theorem MO_inN_no {N : Nat} (hN : N < 1000) {x : Int32} (hx : ¬ (0 ≤ x.toInt ∧ x.toInt < N)) : f_MO_in x.toInt64 0 ((nI N - 1).toInt64) = 0 := by
  have e : (nI N - 1).toInt = (N : Int) - 1 := pk_sub_toInt (a := N) (b := 1) (by omega) (by decide)
  have e0 : (0 : Int32).toInt = 0 := rfl
  exact MOin_no (x := x) (a := 0) (b := nI N - 1) (by rw [fa_lt, fa_lt, e, e0]; omega)
theorem two_fields (hz : Sz w n ld) (h : ReC w n ld ht μ) (h' : ReM w n ld ht ν) (x : Int32) : (f_RE_isField μ x = 0 ∧ f_MO_isField ν x = some 0) ∨ ∃ f, f < n ∧ x = nI f ∧ f_RE_isField μ x = 1 ∧ f_MO_isField ν x = some 1 := by
  have hn := hz.2.2.1
  unfold f_MO_isField
  rw [h'.2.1]
  by_cases c : 0 ≤ x.toInt ∧ x.toInt < n
  · obtain ⟨f, rfl, hf, -⟩ := ge_nI c.1
    exact Or.inr ⟨f, by omega, rfl, RE_isField hn h (by omega), by rw [MO_inN_yes (by omega) (by omega), Bg1]⟩
  · exact Or.inl ⟨RE_isField_no hn h c, by rw [MO_inN_no (by omega) c, Bg0]⟩
theorem two_lakes (hL : LkC σ mo th wa μ) (hM : LkM σ th wa ν) (hN : qN σ ≤ 35) (x : Int32) : (f_LK_isLake μ x = 0 ∧ f_MO_isLake ν x = some 0) ∨ ∃ l, l < qN σ ∧ x = nI l ∧ f_LK_isLake μ x = 1 ∧ f_MO_isLake ν x = some 1 := by
  have e0 : (0 : Int32).toInt = 0 := rfl
  unfold f_MO_isLake
  rw [hM.1]
  by_cases c : 0 ≤ x.toInt ∧ x.toInt < qN σ
  · obtain ⟨f, rfl, hf, -⟩ := ge_nI c.1
    exact Or.inr ⟨f, by omega, rfl, LK_isLake hL.1 (by omega) (by omega), by rw [MO_inN_yes (by omega) (by omega), Bg1]⟩
  · refine Or.inl ⟨?_, by rw [MO_inN_no (by omega) c, Bg0]⟩
    unfold f_LK_isLake
    by_cases c1 : x < 0
    · rw [if_pos c1]
    · rw [if_neg c1, hL.1, if_pos]
      rw [fa_lt, e0] at c1
      rw [fa_le, nI_toInt (by omega)]
      omega
theorem LK_thereWith (hL : LkC σ mo th wa μ) (hN : qN σ ≤ 35) {g : Nat} (hg : g < 64) : ∃ o, f_LK_thereWith μ (nI g) = some (encN o) ∧ (o = none → ∀ l, l < qN σ → th l = true → qF σ l g = false) ∧ ∀ l, o = some l → l < qN σ ∧ th l = true ∧ qF σ l g = true := by
  unfold f_LK_thereWith
  exact lp_b0 (fun m (_ : Unit) k => f_LK_thereWith_L2 μ (nI g) (fun _ => some (-3)) m (nI k)) (fun k _ => ∀ l, l < k → th l = true → qF σ l g = false) (fun v => ∃ o, v = some (encN o) ∧ (o = none → ∀ l, l < qN σ → th l = true → qF σ l g = false) ∧ ∀ l, o = some l → l < qN σ ∧ th l = true ∧ qF σ l g = true) (qN σ) () (by omega) (fun l h => absurd h (Nat.not_lt_zero l))
    (fun m _ hI => ⟨none, by show f_LK_thereWith_L2 μ (nI g) (fun _ => some (-3)) (m + 1) (nI (qN σ)) = _; rw [f_LK_thereWith_L2.eq_2, hL.1, if_pos (Int32.le_refl _)]; rfl, fun _ => hI, fun l h => by cases h⟩)
    (fun m _ k hk hI => by
      show (∃ o, f_LK_thereWith_L2 μ (nI g) (fun _ => some (-3)) (m + 1) (nI k) = _ ∧ _) ∨ ∃ _, _ ∧ f_LK_thereWith_L2 μ (nI g) (fun _ => some (-3)) (m + 1) (nI k) = f_LK_thereWith_L2 μ (nI g) (fun _ => some (-3)) m (nI (k + 1))
      obtain ⟨r1, -, -, -, -, -, r7, -⟩ := hL.2 k hk
      rw [f_LK_thereWith_L2.eq_2, hL.1, if_neg (nI_ge hk (by omega)), G_n (by omega) (by decide), cl (by omega), r7, nI_1, G_n (by omega) (by decide), isIn_eq _ hg, r1 g]
      by_cases c : th k = true
      · rw [if_pos c, if_neg (by decide)]
        by_cases c2 : qF σ k g = true
        · rw [if_pos c2, if_neg (by decide)]
          exact Or.inl ⟨some k, rfl, fun h => (by cases h), fun l h => (by cases h; exact ⟨hk, c, c2⟩)⟩
        · rw [if_neg c2, if_pos rfl]
          refine Or.inr ⟨(), fun l hl hw => ?_, rfl⟩
          by_cases e : l = k
          · subst e; exact Bool.eq_false_iff.mpr c2
          · exact hI l (by omega) hw
      · rw [if_neg c, if_pos rfl]
        refine Or.inr ⟨(), fun l hl hw => ?_, rfl⟩
        by_cases e : l = k
        · subst e; exact absurd hw c
        · exact hI l (by omega) hw)
theorem MO_lakeAt (hL : LkM σ th wa ν) (hN : qN σ ≤ 35) {g : Nat} (hg : g < 64) : ∃ o, f_MO_lakeAt ν (nI g) = some (encN o) ∧ (o = none → ∀ l, l < qN σ → th l = true → qF σ l g = false) ∧ ∀ l, o = some l → l < qN σ ∧ th l = true ∧ qF σ l g = true := by
  unfold f_MO_lakeAt
  obtain ⟨v, v1, o, v2, v3, v4⟩ := lp_0 (fun m a k => f_MO_lakeAt_L5 ν (nI g) m a (nI k)) (fun k a => ∃ o, a = encN o ∧ (o = none → ∀ l, l < k → th l = true → qF σ l g = false) ∧ ∀ l, o = some l → l < qN σ ∧ th l = true ∧ qF σ l g = true) (fun a => ∃ o, a = encN o ∧ (o = none → ∀ l, l < qN σ → th l = true → qF σ l g = false) ∧ ∀ l, o = some l → l < qN σ ∧ th l = true ∧ qF σ l g = true) (qN σ) (-3) (by omega)
    ⟨none, rfl, fun _ l h => absurd h (Nat.not_lt_zero l), fun l h => by cases h⟩
    (fun m a hI => ⟨a, by show f_MO_lakeAt_L5 ν (nI g) (m + 1) a (nI (qN σ)) = _; rw [f_MO_lakeAt_L5.eq_2, hL.1, if_pos (Int32.le_refl _)], hI⟩)
    (fun m a k hk hI => by
      obtain ⟨o, rfl, h1, h2⟩ := hI
      show ∃ a', _ ∧ f_MO_lakeAt_L5 ν (nI g) (m + 1) (encN o) (nI k) = f_MO_lakeAt_L5 ν (nI g) m a' (nI (k + 1))
      obtain ⟨r1, -, -, -, -, -, r7, -⟩ := hL.2 k hk
      rw [f_MO_lakeAt_L5.eq_2, hL.1, if_neg (nI_ge hk (by omega)), G_n (by omega) (by decide), cl (by omega), r7, nI_1, MO_isOf (by omega) hg, r1 g]
      simp only [Option.bind_some]
      have skip : (th k = true → qF σ k g = false) → ∃ o', encN o = encN o' ∧ (o' = none → ∀ l, l < k + 1 → th l = true → qF σ l g = false) ∧ ∀ l, o' = some l → l < qN σ ∧ th l = true ∧ qF σ l g = true := by
        intro hs
        refine ⟨o, rfl, fun e l hl hw => ?_, h2⟩
        by_cases q : l = k
        · subst q; exact hs hw
        · exact h1 e l (by omega) hw
      by_cases c : th k = true
      · rw [if_pos c, if_neg (by decide)]
        by_cases c2 : qF σ k g = true
        · rw [if_pos c2, if_neg (by decide)]
          exact ⟨nI k, ⟨some k, rfl, fun h => (by cases h), fun l h => (by cases h; exact ⟨hk, c, c2⟩)⟩, rfl⟩
        · rw [if_neg c2, if_pos rfl]
          exact ⟨encN o, skip (fun _ => Bool.eq_false_iff.mpr c2), rfl⟩
      · rw [if_neg c, if_pos rfl]
        exact ⟨encN o, skip (fun h => absurd h c), rfl⟩)
  refine ⟨o, ?_, v3, v4⟩
  rw [show f_MO_lakeAt_L5 ν (nI g) FU (-3) 0 = some v from v1, v2]
  rfl
/-- both tell the same lake -/
theorem two_there (hL : LkC σ mo th wa μ) (hM : LkM σ th wa ν) (hN : qN σ ≤ 35) (hW : ∀ l m, l < qN σ → m < qN σ → l ≠ m → th l = true → th m = true → qdis (qF σ) l m) {g : Nat} (hg : g < 64) : ∃ o, f_LK_thereWith μ (nI g) = some (encN o) ∧ f_MO_lakeAt ν (nI g) = some (encN o) ∧ (o = none → ∀ l, l < qN σ → th l = true → qF σ l g = false) ∧ ∀ l, o = some l → l < qN σ ∧ th l = true ∧ qF σ l g = true := by
  obtain ⟨o, o1, o2, o3⟩ := LK_thereWith hL hN hg
  obtain ⟨p, p1, p2, p3⟩ := MO_lakeAt hM hN hg
  have e : p = o := by
    cases o with
    | none =>
      cases p with
      | none => rfl
      | some l =>
        obtain ⟨l1, l2, l3⟩ := p3 l rfl
        rw [o2 rfl l l1 l2] at l3; cases l3
    | some k =>
      obtain ⟨k1, k2, k3⟩ := o3 k rfl
      cases p with
      | none => rw [p2 rfl k k1 k2] at k3; cases k3
      | some l =>
        obtain ⟨l1, l2, l3⟩ := p3 l rfl
        congr 1
        exact Classical.byContradiction (fun hne => hW l k l1 k1 hne l2 k2 g ⟨l3, k3⟩)
  rw [e] at p1
  exact ⟨o, o1, p1, o2, o3⟩
theorem j_field (a b : Int32) (hJ : JJ μ ν) : ∃ r : Int32, f_LR_field μ a b = some r ∧ f_MO_field ν a b = some r ∧ JJ μ ν := by
  suffices h : ∃ r : Int32, f_LR_field μ a b = some r ∧ f_MO_field ν a b = some r by
    obtain ⟨r, h1, h2⟩ := h
    exact ⟨r, h1, h2, hJ⟩
  unfold f_LR_field f_MO_field
  rcases hJ.2 with ⟨q1, q2⟩ | ⟨q1, q2, hL⟩
  · rw [q1, q2, if_pos rfl, if_pos rfl]
    exact ⟨_, rfl, rfl⟩
  obtain ⟨w, n, m, ld, ht, od, dn, we, σ, th, wa, ⟨hz, hh, hm, R, B, O, M, D, V, V2⟩, T, LC, LM, W, h6, h7⟩ := hL
  have hn := hz.2.2.1
  rw [q1, q2, if_neg n10, if_neg n10]
  rcases two_fields hz R M a with ⟨c1, c2⟩ | ⟨f, hf, rfl, c1, c2⟩
  · rw [c1, c2, if_pos rfl]
    exact ⟨_, rfl, rfl⟩
  rw [c1, c2, if_neg n10]
  simp only [Option.bind_some]
  rw [if_neg (by decide : ¬ (1 : Int32) = 0)]
  by_cases b0 : b < 0
  · rw [if_pos b0, show f_MO_in b.toInt64 0 5 = 0 from MOin_no (x := b) (a := 0) (b := 5) (Or.inl b0), if_pos rfl]
    exact ⟨_, rfl, rfl⟩
  rw [if_neg b0]
  by_cases b5 : b ≤ 5
  · rw [if_pos b5, show f_MO_in b.toInt64 0 5 = 1 from MOin_yes (x := b) (a := 0) (b := 5) (Int32.not_lt.mp b0) b5, if_neg (by decide : ¬ (1 : Int32) = 0)]
    simp only [G_n (show f < 64 by omega) (show 64 < 2147483648 by decide)]
    rw [RE_isLand hz R hf, cl (by omega), M.2.2.1 f hf]
    by_cases c : ld f = true
    · rw [if_pos c, if_pos c, if_neg (by decide), if_pos rfl]
      obtain ⟨v1, v2, v3, v4⟩ := V f c
      rw [R.2.2.2 f hf, M.2.2.2 f hf, v1, v2, v3, v4, V2 f hf, if_pos c]
      obtain ⟨o, o1, o2, -⟩ := two_there LC LM T.2.1 W.1 (g := f) (by omega)
      rw [o1, o2]
      by_cases d0 : b = 0
      · rw [if_pos d0]; exact ⟨_, rfl, rfl⟩
      rw [if_neg d0]
      by_cases d1 : b = 1
      · rw [if_pos d1]; exact ⟨_, rfl, rfl⟩
      rw [if_neg d1]
      by_cases d2 : b = 2
      · rw [if_pos d2]; exact ⟨_, rfl, rfl⟩
      rw [if_neg d2]
      by_cases d3 : b = 3
      · rw [if_pos d3]; exact ⟨_, rfl, rfl⟩
      rw [if_neg d3]
      by_cases d4 : b = 4
      · rw [if_pos d4]; exact ⟨_, rfl, rfl⟩
      rw [if_neg d4]
      exact ⟨_, rfl, rfl⟩
    · rw [if_neg c, if_neg c, if_pos rfl, if_neg n10]
      by_cases d0 : b = 0
      · rw [if_pos d0]; exact ⟨_, rfl, rfl⟩
      rw [if_neg d0]
      by_cases d5 : b = 5
      · rw [if_pos d5]; exact ⟨_, rfl, rfl⟩
      rw [if_neg d5]
      exact ⟨_, rfl, rfl⟩
  · rw [if_neg b5, show f_MO_in b.toInt64 0 5 = 0 from MOin_no (x := b) (a := 0) (b := 5) (Or.inr (Int32.not_le.mp b5)), if_pos rfl]
    exact ⟨_, rfl, rfl⟩
/-! hollows -/
theorem RE_isHollow (hz : Sz w n ld) (R : ReC w n ld ht μ) (V : ∀ f, ld f = true → μ.1 20 f = dn f) {f : Nat} (hf : f < n) : f_RE_isHollow μ (nI f) = some (if (ld f && decide (dn f = -3)) = true then 1 else 0) := by
  have hn := hz.2.2.1
  unfold f_RE_isHollow
  rw [RE_isLand hz R hf]
  by_cases c : ld f = true
  · rw [if_pos c, if_neg (by decide), G_n (by omega) (by decide), cl (by omega), V f c]
    by_cases d : dn f = -3
    · rw [if_pos d]; simp [c, d]
    · rw [if_neg d]; simp [c, d]
  · rw [if_neg c, if_pos rfl]; simp [c]
theorem two_hollow (hz : Sz w n ld) (R : ReC w n ld ht μ) (M : ReM w n ld ht ν) (V : ∀ f, ld f = true → μ.1 20 f = dn f) (V' : ∀ f, ld f = true → ν.1 69 f = dn f) {j : Nat} (hj : j < 2147483648) : ∃ r : Int32, f_RE_hollowAt μ (nI j) = some r ∧ f_MO_hollow_L20 ν (fun _ => some (-3)) FU (nI j) 0 = some r := by
  have hn := hz.2.2.1
  unfold f_RE_hollowAt
  have key : ∀ d k F F' a, k + d = n → d < F → d < F' → a ≤ j → ∃ r : Int32, f_RE_hollowAt_L4 μ (nI j) (fun _ => some (-3)) F (nI a) (nI k) = some r ∧ f_MO_hollow_L20 ν (fun _ => some (-3)) F' (nI (j - a)) (nI k) = some r := by
    intro d
    induction d with
    | zero =>
      intro k F F' a hk hF hF' ha
      obtain ⟨F, rfl⟩ : ∃ x, F = x + 1 := ⟨F - 1, by omega⟩
      obtain ⟨F', rfl⟩ : ∃ x, F' = x + 1 := ⟨F' - 1, by omega⟩
      have : k = n := by omega
      subst this
      rw [f_RE_hollowAt_L4.eq_2, f_MO_hollow_L20.eq_2, R.2.1, M.2.1, if_pos (Int32.le_refl _), if_pos (Int32.le_refl _)]
      exact ⟨-3, rfl, rfl⟩
    | succ d ih =>
      intro k F F' a hk hF hF' ha
      obtain ⟨F, rfl⟩ : ∃ x, F = x + 1 := ⟨F - 1, by omega⟩
      obtain ⟨F', rfl⟩ : ∃ x, F' = x + 1 := ⟨F' - 1, by omega⟩
      have hkn : k < n := by omega
      rw [f_RE_hollowAt_L4.eq_2, f_MO_hollow_L20.eq_2, R.2.1, M.2.1, if_neg (nI_ge hkn (by omega)), if_neg (nI_ge hkn (by omega)), RE_isHollow hz R V hkn, nI_1, nI_1]
      simp only [Option.bind_some, G_n (show k < 64 by omega) (show 64 < 2147483648 by decide)]
      rw [cl (by omega), M.2.2.1 k hkn]
      by_cases c : ld k = true
      · rw [if_pos c, if_pos rfl, V' k c]
        by_cases e : dn k = -3
        · rw [if_pos (show (ld k && decide (dn k = -3)) = true by simp [c, e]), if_neg n10, if_pos e]
          by_cases q : a = j
          · subst q
            rw [if_pos rfl, Nat.sub_self, if_pos (by decide)]
            exact ⟨_, rfl, rfl⟩
          · rw [if_neg (fun x => q (nI_inj (by omega) (by omega) x)), if_neg (nI_ne0 (by omega) (by omega))]
            have e2 : nI (j - a) + (-1) = nI (j - (a + 1)) := by
              rw [show j - a = (j - (a + 1)) + 1 by omega, pk_m1]
            rw [e2]
            exact ih (k + 1) F F' (a + 1) (by omega) (by omega) (by omega) (by omega)
        · rw [if_neg (show ¬ (ld k && decide (dn k = -3)) = true by simp [e]), if_pos rfl, if_neg e]
          exact ih (k + 1) F F' a (by omega) (by omega) (by omega) ha
      · rw [if_neg c, if_neg n10, if_neg (show ¬ (ld k && decide (dn k = -3)) = true by simp [c]), if_pos rfl]
        exact ih (k + 1) F F' a (by omega) (by omega) (by omega) ha
  exact key n 0 FU FU 0 (by omega) (by unfold FU; omega) (by unfold FU; omega) (Nat.zero_le _)
theorem j_hollow (a : Int32) (hJ : JJ μ ν) : ∃ r : Int32, f_LR_hollow μ a = some r ∧ f_MO_hollow ν a = some r ∧ JJ μ ν := by
  suffices h : ∃ r : Int32, f_LR_hollow μ a = some r ∧ f_MO_hollow ν a = some r by
    obtain ⟨r, h1, h2⟩ := h
    exact ⟨r, h1, h2, hJ⟩
  unfold f_LR_hollow f_MO_hollow
  rcases hJ.2 with ⟨q1, q2⟩ | ⟨q1, q2, hL⟩
  · rw [q1, q2, if_pos rfl, if_pos rfl]
    exact ⟨_, rfl, rfl⟩
  obtain ⟨w, n, m, ld, ht, od, dn, we, σ, th, wa, ⟨hz, hh, hm, R, B, O, M, D, V, V2⟩, T, LC, LM, W, h6, h7⟩ := hL
  rw [q1, q2, if_neg n10, if_neg n10]
  by_cases c : 0 ≤ a
  · rw [if_pos c, if_pos c]
    rw [fa_le] at c
    obtain ⟨j, rfl, -, hj⟩ := ge_nI (x := a) c
    obtain ⟨r, r1, r2⟩ := two_hollow hz R M (fun f hf => (V f hf).1) (fun f hf => (V f hf).2.2.1) hj
    rw [r1, r2]
    exact ⟨r, rfl, rfl⟩
  · rw [if_neg c, if_neg c]
    exact ⟨_, rfl, rfl⟩
theorem j_ground (a b : Int32) (hJ : JJ μ ν) : ∃ r : Int32, f_LR_ground μ a b = some r ∧ f_MO_ground ν a b = some r ∧ JJ μ ν := by
  suffices h : ∃ r : Int32, f_LR_ground μ a b = some r ∧ f_MO_ground ν a b = some r by
    obtain ⟨r, h1, h2⟩ := h
    exact ⟨r, h1, h2, hJ⟩
  unfold f_LR_ground f_MO_ground
  rcases hJ.2 with ⟨q1, q2⟩ | ⟨q1, q2, hL⟩
  · rw [q1, q2, if_pos rfl, if_pos rfl]
    exact ⟨_, rfl, rfl⟩
  obtain ⟨w, n, m, ld, ht, od, dn, we, σ, th, wa, ⟨hz, hh, hm, R, B, O, M, D, V, V2⟩, T, LC, LM, W, h6, h7⟩ := hL
  have hn := hz.2.2.1
  have hN := T.2.1
  rw [q1, q2, if_neg n10, if_neg n10]
  rcases two_lakes LC LM T.2.1 a with ⟨c1, c2⟩ | ⟨l, hl, rfl, c1, c2⟩
  · rw [c1, c2, if_pos rfl]
    exact ⟨_, rfl, rfl⟩
  rw [c1, c2, if_neg n10]
  simp only [Option.bind_some]
  rw [if_neg (by decide : ¬ (1 : Int32) = 0)]
  rcases two_fields hz R M b with ⟨c1, c2⟩ | ⟨f, hf, rfl, c1, c2⟩
  · rw [c1, c2, if_pos rfl]
    exact ⟨_, rfl, rfl⟩
  rw [c1, c2, if_neg n10]
  simp only [Option.bind_some]
  rw [if_neg (by decide : ¬ (1 : Int32) = 0), G_n (by omega) (by decide), cl (by omega), isIn_eq _ (by omega), MO_isOf (by omega) (by omega), (LC.2 l hl).1 f, (LM.2 l hl).1 f]
  simp only [Option.bind_some]
  by_cases c : qF σ l f = true
  · rw [if_pos c]; exact ⟨_, rfl, rfl⟩
  · rw [if_neg c]; exact ⟨_, rfl, rfl⟩
/-! holds, area -/
def ctF (F : Nat → Bool) (ht : Nat → Int32) (v : Int32) : Nat → Int32
  | 0 => 0
  | k + 1 => ctF F ht v k + (if F k = true then (if v ≤ ht k then 0 else 1) else 0)
theorem LkC.below (hn : n ≤ 64) (h : ReC w n ld ht μ) (hL : LkC σ mo th wa μ) {l : Nat} (hl : l < qN σ) (v : Int32) : f_RE_countBelow μ (μ.2 (28 + l) 0) v = some (ctF (qF σ l) ht v n) := by
  unfold f_RE_countBelow
  obtain ⟨x, h1, h2⟩ := lp_0 (fun i a k => f_RE_countBelow_L6 μ (μ.2 (28 + l) 0) v i a (nI k)) (fun k a => a = ctF (qF σ l) ht v k) (fun a => a = ctF (qF σ l) ht v n) n 0 (by omega) rfl
    (fun i a g => ⟨a, by
      show f_RE_countBelow_L6 μ (μ.2 (28 + l) 0) v (i + 1) a (nI n) = _
      rw [f_RE_countBelow_L6.eq_2, h.2.1, if_pos (Int32.le_refl _)], g⟩)
    (fun i a k hk g => by
      subst g
      refine ⟨ctF (qF σ l) ht v (k + 1), rfl, ?_⟩
      show f_RE_countBelow_L6 μ (μ.2 (28 + l) 0) v (i + 1) (ctF (qF σ l) ht v k) (nI k) = f_RE_countBelow_L6 μ (μ.2 (28 + l) 0) v i (ctF (qF σ l) ht v k + (if qF σ l k = true then (if v ≤ ht k then 0 else 1) else 0)) (nI (k + 1))
      rw [f_RE_countBelow_L6.eq_2, h.2.1, if_neg (nI_ge hk (by omega)), isIn_eq _ (by omega), nI_1, (hL.2 l hl).1 k]
      simp only [G_n (show k < 64 by omega) (show 64 < 2147483648 by decide)]
      rw [cl (by omega), h.2.2.2 k hk]
      by_cases c : qF σ l k = true
      · rw [if_pos c, if_pos c, if_neg (by decide)]
        by_cases c2 : v ≤ ht k
        · rw [if_pos c2, if_pos c2, Int32.add_zero]; rfl
        · rw [if_neg c2, if_neg c2]; rfl
      · rw [if_neg c, if_neg c, if_pos rfl, Int32.add_zero]; rfl)
  rw [show f_RE_countBelow_L6 μ (μ.2 (28 + l) 0) v FU 0 0 = some x from h1, h2]
  rfl
theorem LkM.below (hn : n ≤ 64) (h : ReM w n ld ht ν) (hL : LkM σ th wa ν) (hN : qN σ ≤ 35) {l : Nat} (hl : l < qN σ) (v : Int32) : f_MO_area_L19 ν (nI l) v FU 0 0 = some (ctF (qF σ l) ht v n) := by
  obtain ⟨x, h1, h2⟩ := lp_0 (fun i a k => f_MO_area_L19 ν (nI l) v i a (nI k)) (fun k a => a = ctF (qF σ l) ht v k) (fun a => a = ctF (qF σ l) ht v n) n 0 (by omega) rfl
    (fun i a g => ⟨a, by
      show f_MO_area_L19 ν (nI l) v (i + 1) a (nI n) = _
      rw [f_MO_area_L19.eq_2, h.2.1, if_pos (Int32.le_refl _)], g⟩)
    (fun i a k hk g => by
      subst g
      refine ⟨ctF (qF σ l) ht v (k + 1), rfl, ?_⟩
      show f_MO_area_L19 ν (nI l) v (i + 1) (ctF (qF σ l) ht v k) (nI k) = f_MO_area_L19 ν (nI l) v i (ctF (qF σ l) ht v k + (if qF σ l k = true then (if v ≤ ht k then 0 else 1) else 0)) (nI (k + 1))
      rw [f_MO_area_L19.eq_2, h.2.1, if_neg (nI_ge hk (by omega)), MO_isOf (by omega) (by omega), nI_1, (hL.2 l hl).1 k]
      simp only [Option.bind_some, G_n (show k < 64 by omega) (show 64 < 2147483648 by decide)]
      rw [cl (by omega), h.2.2.2 k hk]
      by_cases c : qF σ l k = true
      · rw [if_pos c, if_pos c, if_neg (by decide)]
        by_cases c2 : v ≤ ht k
        · rw [if_pos c2, if_pos c2]; rfl
        · rw [if_neg c2, if_neg c2]; rfl
      · rw [if_neg c, if_neg c, if_pos rfl]; rfl)
  rw [show f_MO_area_L19 ν (nI l) v FU 0 0 = some x from h1, h2]
/-- whether a level may be asked for -/
theorem two_levels (hz : Sz w n ld) (hI : qInv w n ld dn σ ld) (R : ReC w n ld ht μ) (M : ReM w n ld ht ν) (LC : LkC σ mo th wa μ) (LM : LkM σ th wa ν) (hN : qN σ ≤ 35) (q2 : ν.1 63 3 = 1) (a b : Int32) : (f_LK_isLevelOf μ a b = some 0 ∧ f_MO_against0 ν a b = some (-1)) ∨ ∃ l, l < qN σ ∧ a = nI l ∧ f_LK_isLevelOf μ a b = some 1 ∧ f_MO_against0 ν a b = some 0 := by
  have hn := hz.2.2.1
  unfold f_LK_isLevelOf f_MO_against0
  rw [q2, if_neg (by decide : ¬ (1 : Int32) = 0)]
  rcases two_lakes LC LM hN a with ⟨c1, c2⟩ | ⟨l, hl, rfl, c1, c2⟩
  · rw [c1, c2, if_pos rfl]
    exact Or.inl ⟨rfl, rfl⟩
  rw [c1, c2, if_neg n10]
  simp only [Option.bind_some]
  obtain ⟨r, r1, r2, r3⟩ := q_rim hz hI hl
  rw [if_neg (by decide : ¬ (1 : Int32) = 0), G_n (by omega) (by decide), G_n (by omega) (by decide), G_n (by omega) (by decide), cl (by omega), (LC.2 l hl).2.1, (LM.2 l hl).2.1, r1, RE_isLand hz R r2, if_pos r3, if_neg (by decide : ¬ (1 : Int32) = 0), G_n (by omega) (by decide), G_n (by omega) (by decide), cl (by omega), R.2.2.2 r r2, M.2.2.2 r r2]
  by_cases c : b < -1000000
  · rw [if_pos c, if_pos c]
    exact Or.inl ⟨rfl, rfl⟩
  rw [if_neg c, if_neg c]
  by_cases d : ht r < b
  · rw [if_pos d, if_neg (Int32.not_le.mpr d)]
    exact Or.inl ⟨rfl, rfl⟩
  · rw [if_neg d, if_pos (Int32.not_lt.mp d)]
    exact Or.inr ⟨l, hl, rfl, rfl, rfl⟩
theorem j_holds (a b : Int32) (hJ : JJ μ ν) : ∃ r : Int32, f_LR_holds μ a b = some r ∧ f_MO_holds ν a b = some r ∧ JJ μ ν := by
  suffices h : ∃ r : Int32, f_LR_holds μ a b = some r ∧ f_MO_holds ν a b = some r by
    obtain ⟨r, h1, h2⟩ := h
    exact ⟨r, h1, h2, hJ⟩
  unfold f_LR_holds f_MO_holds
  rcases hJ.2 with ⟨q1, q2⟩ | ⟨q1, q2, hL⟩
  · unfold f_MO_against0
    rw [q1, q2, if_pos rfl, if_pos rfl]
    exact ⟨_, rfl, rfl⟩
  obtain ⟨w, n, m, ld, ht, od, dn, we, σ, th, wa, ⟨hz, hh, hm, R, B, O, M, D, V, V2⟩, T, LC, LM, W, h6, h7⟩ := hL
  have hn := hz.2.2.1
  have hN := T.2.1
  rw [q1, if_neg n10]
  rcases two_levels hz T.1 R M LC LM hN q2 a b with ⟨c1, c2⟩ | ⟨l, hl, rfl, c1, c2⟩
  · rw [c1, c2]
    exact ⟨-1, rfl, rfl⟩
  · rw [c1, c2]
    simp only [Option.bind_some]
    rw [if_neg n10, if_pos trivial, G_n (by omega) (by decide), cl (by omega), LC.room hn R hl, LM.room hn M hN hl]
    exact ⟨_, rfl, rfl⟩
theorem j_area (a b : Int32) (hJ : JJ μ ν) : ∃ r : Int32, f_LR_area μ a b = some r ∧ f_MO_area ν a b = some r ∧ JJ μ ν := by
  suffices h : ∃ r : Int32, f_LR_area μ a b = some r ∧ f_MO_area ν a b = some r by
    obtain ⟨r, h1, h2⟩ := h
    exact ⟨r, h1, h2, hJ⟩
  unfold f_LR_area f_MO_area
  rcases hJ.2 with ⟨q1, q2⟩ | ⟨q1, q2, hL⟩
  · unfold f_MO_against0
    rw [q1, q2, if_pos rfl, if_pos rfl]
    exact ⟨_, rfl, rfl⟩
  obtain ⟨w, n, m, ld, ht, od, dn, we, σ, th, wa, ⟨hz, hh, hm, R, B, O, M, D, V, V2⟩, T, LC, LM, W, h6, h7⟩ := hL
  have hn := hz.2.2.1
  have hN := T.2.1
  rw [q1, if_neg n10]
  rcases two_levels hz T.1 R M LC LM hN q2 a b with ⟨c1, c2⟩ | ⟨l, hl, rfl, c1, c2⟩
  · rw [c1, c2]
    exact ⟨-1, rfl, rfl⟩
  · rw [c1, c2]
    simp only [Option.bind_some]
    rw [if_neg n10, if_pos trivial, G_n (by omega) (by decide), cl (by omega), LC.below hn R hl, LM.below hn M hN hl]
    exact ⟨_, rfl, rfl⟩
end ASK
