/-! ===== a field goes under: the reference looks around ===== -/
def qLm (ν : Mem) (σ : qLS) (l : Nat) : Prop := (∀ g, bit (ν.2 73 l) g = qF σ l g) ∧ ν.1 74 l = qM σ l ∧ ν.1 75 l = qW σ l ∧ ν.1 76 l = qA σ l ∧ ν.1 77 l = qB σ l ∧ ν.1 72 l = (if qA σ l = -3 then 0 else 1) ∧ ν.1 78 l = 0 ∧ ν.1 79 l = 0
def qOw (n : Nat) (σ : qLS) (U : Nat → Bool) (ow : Nat → Int32) : Prop := ∀ g, g < n → U g = true → (qS σ g = true → ow g = -5) ∧ ∀ l, l < qN σ → qW σ l = -3 → qF σ l g = true → ow g = nI l
def qRM (n : Nat) (ν : Mem) (σ : qLS) (U : Nat → Bool) : Prop := ν.1 63 11 = nI (qN σ) ∧ (∀ l, l < qN σ → qLm ν σ l) ∧ (∀ g, g < n → ν.1 82 g = if U g = true then 1 else 0) ∧ qOw n σ U (ν.1 81)
/-- what the building of lakes leaves -/
def qFm (ν a : Mem) : Prop := (∀ q, q < 72 → q ≠ 63 → a.1 q = ν.1 q) ∧ (∀ j, j < 11 → a.1 63 j = ν.1 63 j) ∧ (∀ q, q ≠ 73 → a.2 q = ν.2 q)
theorem qFm.rf {ν : Mem} : qFm ν ν := ⟨fun _ _ _ => rfl, fun _ _ => rfl, fun _ _ => rfl⟩
theorem qFm.tr {ν a b : Mem} (h : qFm ν a) (g : qFm a b) : qFm ν b := ⟨fun q h1 h2 => (g.1 q h1 h2).trans (h.1 q h1 h2), fun j hj => (g.2.1 j hj).trans (h.2.1 j hj), fun q hq => (g.2.2 q hq).trans (h.2.2 q hq)⟩
def qNr (P : Nat → Prop) (ν : Mem) (m : Nat) (nr : Nat → Nat) : Prop := ν.1 63 26 = nI m ∧ (∀ i, i < m → ν.1 83 i = nI (nr i)) ∧ (∀ i j, i < j → j < m → nr i < nr j) ∧ ∀ l, (∃ i, i < m ∧ nr i = l) ↔ P l
def qFl (ν a : Mem) : Prop := (∀ q, q ≠ 63 → q ≠ 83 → a.1 q = ν.1 q) ∧ (∀ j, j ≠ 26 → a.1 63 j = ν.1 63 j) ∧ a.2 = ν.2
section LOOKM
variable {w n : Nat} {ld : Nat → Bool} {ht : Nat → Int32} {dn : Nat → Int32} {σ : qLS} {U T : Nat → Bool} {f : Nat} {b : Bool} {ν : Mem}
theorem qFm.ReM {a : Mem} (h : qFm ν a) (g : ReM w n ld ht ν) : ReM w n ld ht a := g.of (h.2.1 4 (by decide)) (h.2.1 5 (by decide)) (h.1 67 (by decide) (by decide)) (h.1 68 (by decide) (by decide))
theorem qFl.Fm {a : Mem} (h : qFl ν a) : qFm ν a := ⟨fun q h1 h2 => h.1 q h2 (by omega), fun j hj => h.2.1 j (by omega), fun q _ => by rw [h.2.2]⟩
theorem qFl.RM {a : Mem} (h : qFl ν a) (g : qRM n ν σ U) : qRM n a σ U := by
  obtain ⟨g1, g2, g3, g4⟩ := g
  refine ⟨by rw [h.2.1 11 (by decide)]; exact g1, fun l hl => ?_, fun x hx => by rw [h.1 82 (by decide) (by decide)]; exact g3 x hx, by rw [h.1 81 (by decide) (by decide)]; exact g4⟩
  unfold qLm
  rw [h.2.2, h.1 74 (by decide) (by decide), h.1 75 (by decide) (by decide), h.1 76 (by decide) (by decide), h.1 77 (by decide) (by decide), h.1 72 (by decide) (by decide), h.1 78 (by decide) (by decide), h.1 79 (by decide) (by decide)]
  exact g2 l hl
theorem MO_has {m g o : Nat} {nr : Nat → Nat} (hm : m ≤ 4) (h1 : ν.1 63 26 = nI m) (h2 : ∀ i, i < m → ν.1 83 i = nI (nr i)) (h3 : ∀ i, i < m → nr i < 64) (hg : g < 64) (ho : o < 64) (h4 : ν.1 81 g = nI o) (y1 y2 y3 : Int32) : ((∃ i, i < m ∧ nr i = o) ∧ f_MO_lookBeside_L74 ν y1 y2 y3 (nI g) FU 0 0 = some 1) ∨ ((¬ ∃ i, i < m ∧ nr i = o) ∧ f_MO_lookBeside_L74 ν y1 y2 y3 (nI g) FU 0 0 = some 0) := by
  obtain ⟨v, v1, v2⟩ := lp_0 (fun i a k => f_MO_lookBeside_L74 ν y1 y2 y3 (nI g) i a (nI k)) (fun k a => (a = 1 ∧ ∃ i, i < k ∧ nr i = o) ∨ (a = 0 ∧ ¬ ∃ i, i < k ∧ nr i = o)) (fun a => (a = 1 ∧ ∃ i, i < m ∧ nr i = o) ∨ (a = 0 ∧ ¬ ∃ i, i < m ∧ nr i = o)) m 0 (by omega)
    (Or.inr ⟨rfl, fun ⟨i, hi, _⟩ => absurd hi (Nat.not_lt_zero i)⟩)
    (fun i a q => ⟨a, by show f_MO_lookBeside_L74 ν y1 y2 y3 (nI g) (i + 1) a (nI m) = _; rw [f_MO_lookBeside_L74.eq_2, h1, if_pos (Int32.le_refl _)], q⟩)
    (fun i a k hk q => by
      show ∃ a', _ ∧ f_MO_lookBeside_L74 ν y1 y2 y3 (nI g) (i + 1) a (nI k) = f_MO_lookBeside_L74 ν y1 y2 y3 (nI g) i a' (nI (k + 1))
      rw [f_MO_lookBeside_L74.eq_2, h1, if_neg (nI_ge hk (by omega)), nI_1]
      rcases q with ⟨rfl, j, j1, j2⟩ | ⟨rfl, q⟩
      · rw [if_neg (by decide)]
        exact ⟨1, Or.inl ⟨rfl, j, by omega, j2⟩, rfl⟩
      · rw [if_pos rfl, G_n (by omega) (by decide), G_n (by omega) (by decide), cl (by omega), cl (by omega), h2 k hk, h4]
        by_cases c : nr k = o
        · rw [if_pos (by rw [c])]
          exact ⟨1, Or.inl ⟨rfl, k, by omega, c⟩, rfl⟩
        · have := h3 k hk
          rw [if_neg (fun e => c (nI_inj (by omega) (by omega) e))]
          refine ⟨0, Or.inr ⟨rfl, fun ⟨j, j1, j2⟩ => ?_⟩, rfl⟩
          by_cases e : j = k
          · subst e; exact c j2
          · exact q ⟨j, by omega, j2⟩)
  have v1' : f_MO_lookBeside_L74 ν y1 y2 y3 (nI g) FU 0 0 = some v := v1
  rcases v2 with ⟨rfl, q⟩ | ⟨rfl, q⟩
  · exact Or.inl ⟨q, v1'⟩
  · exact Or.inr ⟨q, v1'⟩
theorem MO_nins {m g o : Nat} {nr : Nat → Nat} (hm : m < 4) (h3 : ∀ i, i < m → nr i < 64 ∧ nr i ≠ o) (hso : ∀ i j, i < j → j < m → nr i < nr j) (hg : g < 64) (ho : o < 64) (h4 : ν.1 81 g = nI o) (y1 y2 y3 : Int32) :
    ∀ (p fuel : Nat) (b : Mem), p ≤ m → p < fuel → (∀ k, k < p → b.1 83 k = nI (nr k)) → (∀ k, p < k → k ≤ m → b.1 83 k = nI (nr (k - 1))) → (∀ k, p ≤ k → k < m → o < nr k) → (∀ q, q ≠ 83 → b.1 q = ν.1 q) → b.2 = ν.2 →
    ∃ (p' : Nat) (b' : Mem), f_MO_lookBeside_L129 y1 y2 y3 (nI g) fuel b (nI p) = some (nI p', b') ∧ p' ≤ m ∧ (∀ k, k < p' → b'.1 83 k = nI (nr k)) ∧ (∀ k, p' < k → k ≤ m → b'.1 83 k = nI (nr (k - 1))) ∧ (∀ k, p' ≤ k → k < m → o < nr k) ∧ (∀ k, k < p' → nr k < o) ∧ (∀ q, q ≠ 83 → b'.1 q = ν.1 q) ∧ b'.2 = ν.2 := by
  intro p
  induction p with
  | zero =>
    intro fuel b hp hfu h1 h2 h5 h6 h7
    obtain ⟨fuel, rfl⟩ : ∃ x, fuel = x + 1 := ⟨fuel - 1, by omega⟩
    refine ⟨0, b, ?_, hp, h1, h2, h5, fun k hk => absurd hk (Nat.not_lt_zero k), h6, h7⟩
    rw [f_MO_lookBeside_L129.eq_2, if_pos (by decide)]
  | succ p ih =>
    intro fuel b hp hfu h1 h2 h5 h6 h7
    obtain ⟨fuel, rfl⟩ : ∃ x, fuel = x + 1 := ⟨fuel - 1, by omega⟩
    obtain ⟨o1, o2⟩ := h3 p (by omega)
    have hstep : f_MO_lookBeside_L129 y1 y2 y3 (nI g) (fuel + 1) b (nI (p + 1)) = if o < nr p then f_MO_lookBeside_L129 y1 y2 y3 (nI g) fuel (sI b 83 (p + 1) (nI (nr p))) (nI p) else some (nI (p + 1), b) := by
      rw [f_MO_lookBeside_L129.eq_2, if_neg (nI_nle (by omega) (by omega)), nI_pred]
      simp only [G_n (show p < 4 by omega) (show 4 < 2147483648 by decide), G_n (show g < 64 by omega) (show 64 < 2147483648 by decide)]
      rw [cl (show p < 2147483648 by omega), cl (show g < 2147483648 by omega), h1 p (by omega), h6 81 (by decide), h4]
      by_cases c : o < nr p
      · rw [if_neg (nI_ge c (by omega)), if_pos c, G_n (by omega) (by decide), cl (by omega), pk_m1]
      · rw [if_pos (nI_le (by omega) (by omega)), if_neg c]
    rw [hstep]
    by_cases c : o < nr p
    · rw [if_pos c]
      refine ih fuel _ (by omega) (by omega) ?_ ?_ ?_ ?_ h7
      · intro k hk
        rw [sI_off (by omega)]
        exact h1 k (by omega)
      · intro k hk hkm
        by_cases e : k = p + 1
        · subst e; rw [sI_at]; rfl
        · rw [sI_off e]; exact h2 k (by omega) hkm
      · intro k hk hkm
        by_cases e : k = p
        · subst e; exact c
        · exact h5 k (by omega) hkm
      · intro q hq
        rw [sI_ne hq]
        exact h6 q hq
    · rw [if_neg c]
      refine ⟨p + 1, b, rfl, hp, h1, h2, h5, fun k hk => ?_, h6, h7⟩
      by_cases e : k = p
      · subst e; omega
      · have := hso k p (by omega) (by omega); omega
theorem MO_ninsert {m g o : Nat} {nr : Nat → Nat} {P : Nat → Prop} (hm : m < 4) (hN : qNr P ν m nr) (h3 : ∀ l, P l → l < 64) (hno : ¬ P o) (hg : g < 64) (ho : o < 64) (h4 : ν.1 81 g = nI o) (y1 y2 y3 : Int32) :
    ∃ (p : Nat) (b : Mem) (nr' : Nat → Nat), p ≤ m ∧ f_MO_lookBeside_L129 y1 y2 y3 (nI g) FU ν (nI m) = some (nI p, b) ∧ (∀ q, q ≠ 83 → b.1 q = ν.1 q) ∧ b.2 = ν.2 ∧ qNr (fun l => P l ∨ l = o) (sI (sI b 83 p (nI o)) 63 26 (nI (m + 1))) (m + 1) nr' := by
  obtain ⟨n1, n2, n3, n4⟩ := hN
  have h3' : ∀ i, i < m → nr i < 64 ∧ nr i ≠ o := fun i hi => ⟨h3 _ ((n4 _).mp ⟨i, hi, rfl⟩), fun e => hno ((n4 o).mp ⟨i, hi, e⟩)⟩
  obtain ⟨p, b, k1, k2, k3, k4, k5, k6, k7, k8⟩ := MO_nins hm h3' n3 hg ho h4 y1 y2 y3 m FU ν (Nat.le_refl m) (by unfold FU; omega) n2 (fun k h1 h2 => absurd h1 (by omega)) (fun k h1 h2 => absurd h1 (by omega)) (fun _ _ => rfl) rfl
  refine ⟨p, b, fun k => if k < p then nr k else if k = p then o else nr (k - 1), k2, k1, k7, k8, sI_at, ?_, ?_, ?_⟩
  · intro k hk
    rw [sI_ne (by decide)]
    dsimp only
    by_cases e1 : k < p
    · rw [if_pos e1, sI_off (by omega), k3 k e1]
    · rw [if_neg e1]
      by_cases e2 : k = p
      · subst e2
        rw [if_pos rfl, sI_at]
      · rw [if_neg e2, sI_off e2, k4 k (by omega) (by omega)]
  · intro i j hij hj
    by_cases i1 : i < p
    · simp only [if_pos i1]
      by_cases j1 : j < p
      · simp only [if_pos j1]; exact n3 i j hij (by omega)
      · simp only [if_neg j1]
        by_cases j2 : j = p
        · simp only [if_pos j2]; exact k6 i i1
        · simp only [if_neg j2]; exact n3 i (j - 1) (by omega) (by omega)
    · simp only [if_neg i1]
      rw [if_neg (show ¬ j < p by omega), if_neg (show ¬ j = p by omega)]
      by_cases i2 : i = p
      · simp only [if_pos i2]; exact k5 (j - 1) (by omega) (by omega)
      · simp only [if_neg i2]; exact n3 (i - 1) (j - 1) (by omega) (by omega)
  · intro l
    constructor
    · rintro ⟨i, i1, i2⟩
      dsimp only at i2
      by_cases e1 : i < p
      · rw [if_pos e1] at i2
        exact Or.inl ((n4 l).mp ⟨i, by omega, i2⟩)
      · rw [if_neg e1] at i2
        by_cases e2 : i = p
        · rw [if_pos e2] at i2; exact Or.inr i2.symm
        · rw [if_neg e2] at i2
          exact Or.inl ((n4 l).mp ⟨i - 1, by omega, i2⟩)
    · rintro (q | rfl)
      · obtain ⟨i, i1, i2⟩ := (n4 l).mpr q
        by_cases e1 : i < p
        · exact ⟨i, by omega, by dsimp only; rw [if_pos e1]; exact i2⟩
        · exact ⟨i + 1, by omega, by dsimp only; rw [if_neg (by omega), if_neg (by omega)]; exact i2⟩
      · exact ⟨p, by omega, by simp⟩
theorem MO_lookBeside (hz : Sz w n ld) (h : ReM w n ld ht ν) (hR : qRM n ν σ U) (hN : qN σ ≤ 35) (hI : qInv w n ld dn σ U) (hf : f < n) (hT : qTs w n ld σ f T) (hb : qbs w n ld σ f b) : ∃ (a : Mem) (m : Nat) (nr : Nat → Nat), f_MO_lookBeside ν (nI f) = some ((if b = true then 1 else 0), a) ∧ m ≤ 4 ∧ qNr (fun l => T l = true) a m nr ∧ qFl ν a := by
  have hn := hz.2.2.1
  unfold f_MO_lookBeside
  let PP : Nat → Nat → Prop := fun K l => l < qN σ ∧ qW σ l = -3 ∧ ∃ k, k < K ∧ ∃ g, nbr w n ld f k = some g ∧ qF σ l g = true
  let SS : Nat → Prop := fun K => (∃ k, k < K ∧ nbr w n ld f k = none) ∨ ∃ k, k < K ∧ ∃ g, nbr w n ld f k = some g ∧ qS σ g = true
  obtain ⟨v, v1, v2, m, nr, v3, v4, v5⟩ := lp_0 (fun i (a : Int32 × Mem) k => f_MO_lookBeside_L9 (nI f) i a.2 a.1 (nI k)) (fun K a => ((a.1 = 1 ∧ SS K) ∨ (a.1 = 0 ∧ ¬ SS K)) ∧ ∃ (m : Nat) (nr : Nat → Nat), m ≤ K ∧ qNr (PP K) a.2 m nr ∧ qFl ν a.2)
    (fun a => ((a.1 = 1 ∧ SS 4) ∨ (a.1 = 0 ∧ ¬ SS 4)) ∧ ∃ (m : Nat) (nr : Nat → Nat), m ≤ 4 ∧ qNr (PP 4) a.2 m nr ∧ qFl ν a.2) 4 (0, sI ν 63 26 0) (by decide)
    (by
      refine ⟨Or.inr ⟨rfl, ?_⟩, 0, fun _ => 0, Nat.le_refl 0, ⟨sI_at, fun i hi => absurd hi (Nat.not_lt_zero i), fun i j _ hj => absurd hj (Nat.not_lt_zero j), fun l => ⟨fun ⟨i, hi, _⟩ => absurd hi (Nat.not_lt_zero i), fun ⟨_, _, k, hk, _⟩ => absurd hk (Nat.not_lt_zero k)⟩⟩, ⟨fun q h1 h2 => sI_ne h1, fun j hj => sI_off hj, rfl⟩⟩
      rintro (⟨k, hk, _⟩ | ⟨k, hk, _⟩) <;> exact absurd hk (Nat.not_lt_zero k))
    (fun i a q => ⟨a, by
      show f_MO_lookBeside_L9 (nI f) (i + 1) a.2 a.1 (nI 4) = _
      rw [f_MO_lookBeside_L9.eq_2, if_pos (by decide)], q⟩)
    (fun i a k hk q => by
      obtain ⟨y, a⟩ := a
      obtain ⟨q1, m, nr, q2, q3, q4⟩ := q
      dsimp only at q1 q3 q4
      have ra : ReM w n ld ht a := q4.Fm.ReM h
      have rR : qRM n a σ U := q4.RM hR
      obtain ⟨r1, r2, r3, r4⟩ := rR
      show ∃ a' : Int32 × Mem, _ ∧ f_MO_lookBeside_L9 (nI f) (i + 1) a y (nI k) = f_MO_lookBeside_L9 (nI f) i a'.2 a'.1 (nI (k + 1))
      rw [f_MO_lookBeside_L9.eq_2, if_neg (nge 4 (b := 4) rfl hk (by decide)), nI_1]
      have noP : (∀ x, nbr w n ld f k = some x → ∀ l, l < qN σ → qW σ l = -3 → qF σ l x = false) → qNr (PP (k + 1)) a m nr := by
        intro hs
        refine ⟨q3.1, q3.2.1, q3.2.2.1, fun l => ?_⟩
        rw [q3.2.2.2 l]
        constructor
        · rintro ⟨a1, a2, k', a3, a4⟩; exact ⟨a1, a2, k', by omega, a4⟩
        · rintro ⟨a1, a2, k', a3, x, a4, a5⟩
          refine ⟨a1, a2, k', ?_, x, a4, a5⟩
          by_cases e : k' = k
          · subst e; rw [hs x a4 l a1 a2] at a5; cases a5
          · omega
      have noS : (∀ x, nbr w n ld f k = some x → qS σ x = false) → (nbr w n ld f k ≠ none) → ((y = 1 ∧ SS (k + 1)) ∨ (y = 0 ∧ ¬ SS (k + 1))) := by
        intro hs hnn
        rcases q1 with ⟨e, s⟩ | ⟨e, s⟩
        · refine Or.inl ⟨e, ?_⟩
          rcases s with ⟨k', s1, s2⟩ | ⟨k', s1, s2⟩
          · exact Or.inl ⟨k', by omega, s2⟩
          · exact Or.inr ⟨k', by omega, s2⟩
        · refine Or.inr ⟨e, fun s' => s ?_⟩
          rcases s' with ⟨k', s1, s2⟩ | ⟨k', s1, x, s2, s3⟩
          · by_cases e : k' = k
            · subst e; exact absurd s2 hnn
            · exact Or.inl ⟨k', by omega, s2⟩
          · by_cases e : k' = k
            · subst e; rw [hs x s2] at s3; cases s3
            · exact Or.inr ⟨k', by omega, x, s2, s3⟩
      obtain ⟨v, b1, b2⟩ := MO_side hz ra hf hk
      rw [b1]
      simp only [Option.bind_some]
      have wet : f_MO_isWet a v = some 1 → nbr w n ld f k = none → ∃ a' : Int32 × Mem, ((a'.1 = 1 ∧ SS (k + 1)) ∨ (a'.1 = 0 ∧ ¬ SS (k + 1))) ∧ (∃ (m : Nat) (nr : Nat → Nat), m ≤ k + 1 ∧ qNr (PP (k + 1)) a'.2 m nr ∧ qFl ν a'.2) := by
        intro _ e
        exact ⟨(1, a), Or.inl ⟨rfl, Or.inl ⟨k, by omega, e⟩⟩, m, nr, by omega, noP (fun x hx => by rw [e] at hx; cases hx), q4⟩
      rcases b2 with ⟨rfl, e1, e2⟩ | ⟨g, hg, rfl, hl, e1, e2⟩ | ⟨g, hg, rfl, hl, e1, e2⟩
      · rw [e2]
        exact ⟨(1, a), ⟨Or.inl ⟨rfl, Or.inl ⟨k, by omega, e1⟩⟩, m, nr, by omega, noP (fun x hx => by rw [e1] at hx; cases hx), q4⟩, rfl⟩
      · rw [e2]
        exact ⟨(1, a), ⟨Or.inl ⟨rfl, Or.inl ⟨k, by omega, e1⟩⟩, m, nr, by omega, noP (fun x hx => by rw [e1] at hx; cases hx), q4⟩, rfl⟩
      · rw [e2]
        have nn : nbr w n ld f k ≠ none := by rw [e1]; simp
        simp only [Option.bind_some, if_true, G_n (show g < 64 by omega) (show 64 < 2147483648 by decide)]
        rw [cl (by omega), r3 g hg]
        by_cases cu : U g = true
        case neg =>
          rw [if_neg cu]
          simp only [if_true, Option.bind_some]
          have nu : ∀ l, l < qN σ → qW σ l = -3 → qF σ l g = false := by
            intro l hl' _
            cases c : qF σ l g with
            | false => rfl
            | true => exact absurd (hI.1.1 l hl' g c) cu
          refine ⟨(y, a), ⟨noS (fun x hx => ?_) nn, m, nr, by omega, noP (fun x hx => by rw [e1] at hx; cases hx; exact nu), q4⟩, rfl⟩
          rw [e1] at hx; cases hx
          cases c : qS σ g with
          | false => rfl
          | true => exact absurd (hI.1.2.1 g c) cu
        case pos =>
          rw [if_pos cu]
          obtain ⟨ow1, ow2⟩ := r4 g hg cu
          rcases hI.1.2.2.2.1 g cu with cs | ⟨t, t1, t2, t3⟩
          · rw [ow1 cs]
            simp only [if_true, Option.bind_some, if_neg (show ¬ (1 : Int32) = 0 by decide)]
            refine ⟨(1, a), ⟨Or.inl ⟨rfl, Or.inr ⟨k, by omega, g, e1, cs⟩⟩, m, nr, by omega, noP (fun x hx l hl' hw => ?_), q4⟩, rfl⟩
            rw [e1] at hx; cases hx
            cases c : qF σ l g with
            | false => rfl
            | true => rw [hI.1.2.2.2.2 l hl' hw g c] at cs; cases cs
          · have ow := ow2 t t1 t2 t3
            have ns : qS σ g = false := hI.1.2.2.2.2 t t1 t2 g t3
            have hPl : ∀ l, PP k l → l < 64 := fun l hl' => by have := hl'.1; omega
            have nS := noS (fun x hx => by rw [e1] at hx; cases hx; exact ns) nn
            rw [ow]
            simp only [if_neg (show ¬ (1 : Int32) = 0 by decide), if_neg (show ¬ nI t = -5 from nI_n5 (by omega))]
            rcases MO_has (g := g) (o := t) (nr := nr) (by omega) q3.1 q3.2.1 (fun j hj => hPl _ ((q3.2.2.2 _).mp ⟨j, hj, rfl⟩)) (by omega) (by omega) ow (nI f) y (nI k) with ⟨c1, c2⟩ | ⟨c1, c2⟩
            · rw [c2]
              simp only [Option.bind_some, if_neg (show ¬ (1 : Int32) = 0 by decide)]
              refine ⟨(y, a), ⟨nS, m, nr, by omega, ⟨q3.1, q3.2.1, q3.2.2.1, fun l => ?_⟩, q4⟩, rfl⟩
              rw [q3.2.2.2 l]
              constructor
              · rintro ⟨a1, a2, k', a3, a4⟩; exact ⟨a1, a2, k', by omega, a4⟩
              · rintro ⟨a1, a2, k', a3, x, a4, a5⟩
                by_cases e : k' = k
                · subst e
                  rw [e1] at a4; cases a4
                  by_cases e' : l = t
                  · subst e'; exact (q3.2.2.2 l).mp c1
                  · exact absurd ⟨a5, t3⟩ (qtop hI.2.1 a1 t1 a2 t2 e' g)
                · exact ⟨a1, a2, k', by omega, x, a4, a5⟩
            · rw [c2, q3.1]
              simp only [Option.bind_some, if_true]
              have c1' : ¬ PP k t := fun q => c1 ((q3.2.2.2 t).mpr q)
              obtain ⟨p, b', nr', p1, p2, p3, p4, p5⟩ := MO_ninsert (by omega) q3 hPl c1' (show g < 64 by omega) (show t < 64 by omega) ow (nI f) y (nI k)
              rw [p2]
              simp only [Option.bind_some, G_n (show p < 4 by omega) (show 4 < 2147483648 by decide)]
              rw [cl (show p < 2147483648 by omega), p3 81 (by decide), ow, sI_ne (by decide), p3 63 (by decide), q3.1, nI_1]
              refine ⟨(y, sI (sI b' 83 p (nI t)) 63 26 (nI (m + 1))), ⟨nS, m + 1, nr', by omega, ⟨p5.1, p5.2.1, p5.2.2.1, fun l => ?_⟩, ?_⟩, rfl⟩
              · rw [p5.2.2.2 l]
                constructor
                · rintro (⟨a1, a2, k', a3, a4⟩ | rfl)
                  · exact ⟨a1, a2, k', by omega, a4⟩
                  · exact ⟨t1, t2, k, by omega, g, e1, t3⟩
                · rintro ⟨a1, a2, k', a3, x, a4, a5⟩
                  by_cases e : k' = k
                  · subst e
                    rw [e1] at a4; cases a4
                    by_cases e' : l = t
                    · exact Or.inr e'
                    · exact absurd ⟨a5, t3⟩ (qtop hI.2.1 a1 t1 a2 t2 e' g)
                  · exact Or.inl ⟨a1, a2, k', by omega, x, a4, a5⟩
              · refine ⟨fun q h1 h2 => ?_, fun j hj => ?_, ?_⟩
                · rw [sI_ne h1, sI_ne h2, p3 q h2]; exact q4.1 q h1 h2
                · rw [sI_off hj, sI_ne (by decide), p3 63 (by decide)]; exact q4.2.1 j hj
                · show b'.2 = ν.2; rw [p4]; exact q4.2.2)
  rw [show f_MO_lookBeside_L9 (nI f) FU (sI ν 63 26 0) 0 0 = some v from v1]
  obtain ⟨y, a⟩ := v
  dsimp only at v2 v4 v5
  have eS : SS 4 ↔ b = true := Iff.symm hb
  have ey : y = if b = true then 1 else 0 := by
    rcases v2 with ⟨e, s⟩ | ⟨e, s⟩
    · rw [if_pos (eS.mp s)]; exact e
    · rw [if_neg (fun h => s (eS.mpr h))]; exact e
  refine ⟨a, m, nr, ?_, v3, ⟨v4.1, v4.2.1, v4.2.2.1, fun l => ?_⟩, v5⟩
  · simp only [Option.bind_some]
    unfold Bg
    rw [ey]
    rw [if_pos (by cases b <;> rfl)]
  · rw [v4.2.2.2 l]
    exact (hT l).symm
end LOOKM
