/-! ===== a field goes under: the class ===== -/
def qLk (μ : Mem) (σ : qLS) (l : Nat) : Prop := (∀ g, bit (μ.2 (28 + l) 0) g = qF σ l g) ∧ μ.1 (28 + l) 1 = qM σ l ∧ μ.1 (28 + l) 2 = qW σ l ∧ μ.1 (28 + l) 3 = qA σ l ∧ μ.1 (28 + l) 4 = qB σ l ∧ μ.1 (28 + l) 5 = 0 ∧ μ.1 (28 + l) 6 = 0 ∧ μ.1 (28 + l) 7 = 0
def qRC (μ : Mem) (σ : qLS) : Prop := μ.1 26 1 = nI (qN σ) ∧ (∀ g, bit (μ.2 26 5) g = qS σ g) ∧ ∀ l, l < qN σ → qLk μ σ l
def qFr (μ a : Mem) : Prop := (∀ q, q < 26 → a.1 q = μ.1 q) ∧ (∀ q, q < 26 → a.2 q = μ.2 q) ∧ a.2 26 2 = μ.2 26 2 ∧ a.2 26 3 = μ.2 26 3
theorem qFr.rf {μ : Mem} : qFr μ μ := ⟨fun _ _ => rfl, fun _ _ => rfl, rfl, rfl⟩
theorem qFr.tr {μ a b : Mem} (h : qFr μ a) (g : qFr a b) : qFr μ b := ⟨fun q hq => (g.1 q hq).trans (h.1 q hq), fun q hq => (g.2.1 q hq).trans (h.2.1 q hq), g.2.2.1.trans h.2.2.1, g.2.2.2.trans h.2.2.2⟩
section UNDERC
variable {w n : Nat} {ld : Nat → Bool} {ht : Nat → Int32} {dn : Nat → Int32} {σ : qLS} {U T : Nat → Bool} {f : Nat} {b : Bool} {μ : Mem}
theorem qFr.ReC {a : Mem} (h : qFr μ a) (g : ReC w n ld ht μ) : ReC w n ld ht a := g.of (by rw [h.1 18 (by decide)]) (by rw [h.1 18 (by decide)]) (by rw [h.2.1 18 (by decide)]) (h.1 19 (by decide))
theorem qFr.NbC {a : Mem} (h : qFr μ a) (g : NbC w n ld μ) : NbC w n ld a := fun f hf j hj => by rw [h.1 24 (by decide)]; exact g f hf j hj
theorem LK_topWith_sea (hR : qRC μ σ) (hN : qN σ ≤ 35) : f_LK_topWith μ (-5) = some (-3) := by
  unfold f_LK_topWith
  exact lp_b0 (fun m (_ : Unit) k => f_LK_topWith_L2 μ (-5) (fun _ => some (-3)) m (nI k)) (fun _ _ => True) (fun o => o = some (-3)) (qN σ) () (by omega) trivial
    (fun m _ _ => by show f_LK_topWith_L2 μ (-5) (fun _ => some (-3)) (m + 1) (nI (qN σ)) = _; rw [f_LK_topWith_L2.eq_2, hR.1, if_pos (Int32.le_refl _)])
    (fun m _ k hk _ => Or.inr ⟨(), trivial, by
      show f_LK_topWith_L2 μ (-5) (fun _ => some (-3)) (m + 1) (nI k) = f_LK_topWith_L2 μ (-5) (fun _ => some (-3)) m (nI (k + 1))
      rw [f_LK_topWith_L2.eq_2, hR.1, if_neg (nI_ge hk (by omega)), G_n (by omega) (by decide), if_pos rfl, nI_1]
      exact ite_self _⟩)
theorem LK_topWith (hR : qRC μ σ) (hN : qN σ ≤ 35) {g : Nat} (hg : g < 64) : ∃ o, f_LK_topWith μ (nI g) = some (encN o) ∧ (o = none → ∀ l, l < qN σ → qW σ l = -3 → qF σ l g = false) ∧ ∀ l, o = some l → l < qN σ ∧ qW σ l = -3 ∧ qF σ l g = true := by
  unfold f_LK_topWith
  exact lp_b0 (fun m (_ : Unit) k => f_LK_topWith_L2 μ (nI g) (fun _ => some (-3)) m (nI k)) (fun k _ => ∀ l, l < k → qW σ l = -3 → qF σ l g = false) (fun v => ∃ o, v = some (encN o) ∧ (o = none → ∀ l, l < qN σ → qW σ l = -3 → qF σ l g = false) ∧ ∀ l, o = some l → l < qN σ ∧ qW σ l = -3 ∧ qF σ l g = true) (qN σ) () (by omega) (fun l h => absurd h (Nat.not_lt_zero l))
    (fun m _ hI => ⟨none, by show f_LK_topWith_L2 μ (nI g) (fun _ => some (-3)) (m + 1) (nI (qN σ)) = _; rw [f_LK_topWith_L2.eq_2, hR.1, if_pos (Int32.le_refl _)]; rfl, fun _ => hI, fun l h => by cases h⟩)
    (fun m _ k hk hI => by
      show (∃ o, f_LK_topWith_L2 μ (nI g) (fun _ => some (-3)) (m + 1) (nI k) = _ ∧ _) ∨ ∃ _, _ ∧ f_LK_topWith_L2 μ (nI g) (fun _ => some (-3)) (m + 1) (nI k) = f_LK_topWith_L2 μ (nI g) (fun _ => some (-3)) m (nI (k + 1))
      obtain ⟨r1, -, r3, -⟩ := hR.2.2 k hk
      rw [f_LK_topWith_L2.eq_2, hR.1, if_neg (nI_ge hk (by omega)), G_n (by omega) (by decide), cl (by omega), r3, nI_1, if_neg (nI_n5 (by omega)), G_n (by omega) (by decide), isIn_eq _ hg, r1 g]
      by_cases c : qW σ k = -3
      · rw [if_pos c]
        by_cases c2 : qF σ k g = true
        · rw [if_pos c2, if_neg (by decide)]
          exact Or.inl ⟨some k, rfl, fun h => (by cases h), fun l h => (by cases h; exact ⟨hk, c, c2⟩)⟩
        · rw [if_neg c2, if_pos rfl]
          refine Or.inr ⟨(), fun l hl hw => ?_, rfl⟩
          by_cases e : l = k
          · subst e; exact Bool.eq_false_iff.mpr c2
          · exact hI l (by omega) hw
      · rw [if_neg c]
        refine Or.inr ⟨(), fun l hl hw => ?_, rfl⟩
        by_cases e : l = k
        · subst e; exact absurd hw c
        · exact hI l (by omega) hw)
theorem LK_topsBeside (hz : Sz w n ld) (h : ReC w n ld ht μ) (hb : NbC w n ld μ) (hR : qRC μ σ) (hN : qN σ ≤ 35) (hL : qIL σ) (hf : f < n) : ∃ v, f_LK_topsBeside μ (nI f) = some v ∧ qTs w n ld σ f (bit v) := by
  have hn := hz.2.2.1
  unfold f_LK_topsBeside
  obtain ⟨v, h1, h2⟩ := lp_0 (fun m a k => f_LK_topsBeside_L5 μ (nI f) m a (nI k)) (fun K a => ∀ l, bit a l = true ↔ l < qN σ ∧ qW σ l = -3 ∧ ∃ k, k < K ∧ ∃ g, nbr w n ld f k = some g ∧ qF σ l g = true) (fun v => qTs w n ld σ f (bit v)) 4 0 (by decide)
    (fun l => by rw [bit_0]; exact ⟨fun h => (by cases h), fun ⟨_, _, k, h, _⟩ => absurd h (Nat.not_lt_zero k)⟩)
    (fun m a g => ⟨a, by show f_LK_topsBeside_L5 μ (nI f) (m + 1) a (nI 4) = _; rw [f_LK_topsBeside_L5.eq_2, if_pos (by decide)], g⟩)
    (fun m a k hk g => by
      show ∃ a', _ ∧ f_LK_topsBeside_L5 μ (nI f) (m + 1) a (nI k) = f_LK_topsBeside_L5 μ (nI f) m a' (nI (k + 1))
      rw [f_LK_topsBeside_L5.eq_2, if_neg (nge 4 (b := 4) rfl hk (by decide)), RE_beside hz h hb hf hk, nI_1]
      simp only [Option.bind_some]
      have skip : (∀ x, nbr w n ld f k = some x → ∀ l, l < qN σ → qW σ l = -3 → qF σ l x = false) → ∀ l, bit a l = true ↔ l < qN σ ∧ qW σ l = -3 ∧ ∃ k', k' < k + 1 ∧ ∃ g, nbr w n ld f k' = some g ∧ qF σ l g = true := by
        intro hs l
        rw [g l]
        constructor
        · rintro ⟨a1, a2, k', a3, a4⟩; exact ⟨a1, a2, k', by omega, a4⟩
        · rintro ⟨a1, a2, k', a3, x, a4, a5⟩
          refine ⟨a1, a2, k', ?_, x, a4, a5⟩
          by_cases e : k' = k
          · subst e; rw [hs x a4 l a1 a2] at a5; cases a5
          · omega
      cases e : nbr w n ld f k with
      | none =>
        rw [enc_none, LK_topWith_sea hR hN]
        simp only [Option.bind_some, if_pos]
        exact ⟨a, skip (fun x hx => by rw [e] at hx; cases hx), rfl⟩
      | some x =>
        have hx := (nbr_ne hz hf e).2.1
        obtain ⟨o, o1, o2, o3⟩ := LK_topWith (g := x) hR hN (by omega)
        rw [enc_some, o1]
        simp only [Option.bind_some]
        cases o with
        | none =>
          rw [show encN none = -3 from rfl, if_pos rfl]
          exact ⟨a, skip (fun y hy => by rw [e] at hy; cases hy; exact o2 rfl), rfl⟩
        | some t =>
          obtain ⟨t1, t2, t3⟩ := o3 t rfl
          rw [show encN (some t) = nI t from rfl, if_neg (nI_n3 (by omega))]
          refine ⟨a ||| f_LR_only (nI t), ?_, rfl⟩
          intro l
          rw [bit_or, bit_only (by omega), Bool.or_eq_true, decide_eq_true_iff, g l]
          constructor
          · rintro (⟨a1, a2, k', a3, a4⟩ | rfl)
            · exact ⟨a1, a2, k', by omega, a4⟩
            · exact ⟨t1, t2, k, by omega, x, e, t3⟩
          · rintro ⟨a1, a2, k', a3, y, a4, a5⟩
            by_cases e' : k' = k
            · subst e'
              rw [e] at a4; cases a4
              right
              by_cases q : l = t
              · exact q
              · exact absurd ⟨a5, t3⟩ (qtop hL a1 t1 a2 t2 q x)
            · exact Or.inl ⟨a1, a2, k', by omega, y, a4, a5⟩)
  rw [show f_LK_topsBeside_L5 μ (nI f) FU 0 0 = some v from h1]
  exact ⟨v, rfl, h2⟩
theorem LK_isBesideSeas (hz : Sz w n ld) (h : ReC w n ld ht μ) (hb : NbC w n ld μ) (hR : qRC μ σ) (hf : f < n) : ∃ b : Bool, f_LK_isBesideSeas μ (nI f) = some (if b then 1 else 0) ∧ qbs w n ld σ f b := by
  unfold f_LK_isBesideSeas
  rcases RE_isBesideSea hz h hb hf with ⟨q1, q2⟩ | ⟨q1, q2⟩
  · rw [q2]
    exact ⟨true, rfl, fun _ => Or.inl q1, fun _ => rfl⟩
  · rw [q2]
    simp only [Option.bind_some, if_pos]
    obtain ⟨r, r1, r2, r3⟩ := RE_lowestBeside hz h hb hf (μ.2 26 5)
    rw [r1]
    simp only [Option.bind_some]
    cases r with
    | none =>
      refine ⟨false, rfl, fun h => (by cases h), ?_⟩
      rintro (c | ⟨k, hk, g, hg, hs⟩)
      · exact absurd c q1
      · have := r2 k hk g hg
        rw [hR.2.1 g, hs] at this; cases this
    | some a =>
      have := r3 a rfl
      have hn := hz.2.2.1
      rw [show encN (some a) = nI a from rfl, if_neg (nI_n3 (by omega))]
      obtain ⟨a1, ⟨k, hk, a2⟩, -⟩ := r2
      exact ⟨true, rfl, fun _ => Or.inr ⟨k, hk, a, a2, by rw [← hR.2.1 a]; exact a1⟩, fun _ => rfl⟩
theorem LK_spillToSea (hR : qRC μ σ) (hN : qN σ ≤ 35) (hf : f < 64) (s : Int64) : ∃ a, f_LK_spillToSea μ s (nI f) = some a ∧ qRC a (qsel (qspls (bit s) f σ (qN σ)) f) ∧ qFr μ a := by
  unfold f_LK_spillToSea
  have eN : ∀ k, qN (qspls (bit s) f σ k) = qN σ := by
    intro k
    induction k with
    | zero => rfl
    | succ k ih =>
      cases c : bit s k with
      | true => rw [qspls_t c]; exact ih
      | false => rw [qspls_f c]; exact ih
  obtain ⟨v, h1, h2, h3⟩ := lp_0 (fun m a k => f_LK_spillToSea_L16 s (nI f) m a (nI k)) (fun k a => qRC a (qsel (qspls (bit s) f σ k) f) ∧ qFr μ a) (fun a => qRC a (qsel (qspls (bit s) f σ (qN σ)) f) ∧ qFr μ a) (qN σ) (sJ μ 26 5 ((μ.2 26 5) ||| (f_LR_only (nI f)))) (by omega)
    (by
      refine ⟨⟨hR.1, ?_, ?_⟩, ?_⟩
      · intro g
        rw [sJ_at, bit_or, bit_only hf, hR.2.1 g]
        rfl
      · intro l hl
        obtain ⟨r1, r2⟩ := hR.2.2 l hl
        refine ⟨fun g => ?_, r2⟩
        rw [sJ_ne (by omega)]
        exact r1 g
      · exact ⟨fun _ _ => rfl, fun q hq => sJ_ne (by omega), sJ_off (by decide), sJ_off (by decide)⟩)
    (fun m a g => ⟨a, by
      show f_LK_spillToSea_L16 s (nI f) (m + 1) a (nI (qN σ)) = _
      rw [f_LK_spillToSea_L16.eq_2, g.1.1, show qN (qsel (qspls (bit s) f σ (qN σ)) f) = qN σ from eN _, if_pos (Int32.le_refl _)], g⟩)
    (fun m a k hk g => by
      obtain ⟨⟨g1, g2, g3⟩, g4⟩ := g
      have eNk : qN (qsel (qspls (bit s) f σ k) f) = qN σ := eN k
      show ∃ a', _ ∧ f_LK_spillToSea_L16 s (nI f) (m + 1) a (nI k) = f_LK_spillToSea_L16 s (nI f) m a' (nI (k + 1))
      rw [f_LK_spillToSea_L16.eq_2, g1, eNk, if_neg (nI_ge hk (by omega)), isIn_eq _ (by omega), nI_1]
      by_cases c : bit s k = true
      case neg =>
        rw [if_neg c, if_pos rfl, qspls_f (Bool.eq_false_iff.mpr c)]
        exact ⟨a, ⟨⟨g1, g2, g3⟩, g4⟩, rfl⟩
      case pos =>
        rw [if_pos c, if_neg (by decide : ¬ (1 : Int32) = 0), G_n (by omega) (by decide), G_n (by omega) (by decide), cl (by omega), qspls_t c]
        refine ⟨_, ⟨⟨?_, ?_, ?_⟩, ?_⟩, rfl⟩
        · show (sI (sI a (28 + k) 1 (nI f)) (28 + k) 2 (-5)).1 26 1 = _
          rw [sI_ne (by omega), sI_ne (by omega)]
          exact g1
        · intro g
          obtain ⟨r1, -⟩ := g3 k (by rw [eNk]; exact hk)
          rw [sJ_at, bit_or]
          show (bit (a.2 26 5) g || bit (a.2 (28 + k) 0) g) = (qS (qspls (bit s) f σ k) g || qF (qspls (bit s) f σ k) k g || decide (g = f))
          rw [g2 g, r1 g]
          show ((qS (qspls (bit s) f σ k) g || decide (g = f)) || qF (qspls (bit s) f σ k) k g) = _
          cases qS (qspls (bit s) f σ k) g <;> cases qF (qspls (bit s) f σ k) k g <;> cases decide (g = f) <;> rfl
        · intro l hl
          have hl' : l < qN σ := by rw [show qN (qsel (qspl (qspls (bit s) f σ k) f k) f) = qN (qspls (bit s) f σ k) from rfl, eN] at hl; exact hl
          obtain ⟨r1, r2, r3, r4, r5, r6, r7, r8⟩ := g3 l (by rw [eNk]; exact hl')
          have hne : 28 + l ≠ 26 := by omega
          by_cases e : l = k
          · subst e
            refine ⟨fun g => ?_, ?_, ?_, ?_, ?_, ?_, ?_, ?_⟩
            · rw [sJ_ne hne]; exact r1 g
            · rw [sJ_1]; unfold f_LA_spillAt; rw [sI_off (by decide), sI_at]; exact qs_Ml.symm
            · rw [sJ_1]; unfold f_LA_spillAt; rw [sI_at]; exact (qs_Wl (f := f)).symm
            · rw [sJ_1]; unfold f_LA_spillAt; rw [sI_off (by decide), sI_off (by decide)]; exact r4
            · rw [sJ_1]; unfold f_LA_spillAt; rw [sI_off (by decide), sI_off (by decide)]; exact r5
            · rw [sJ_1]; unfold f_LA_spillAt; rw [sI_off (by decide), sI_off (by decide)]; exact r6
            · rw [sJ_1]; unfold f_LA_spillAt; rw [sI_off (by decide), sI_off (by decide)]; exact r7
            · rw [sJ_1]; unfold f_LA_spillAt; rw [sI_off (by decide), sI_off (by decide)]; exact r8
          · have hne2 : 28 + l ≠ 28 + k := by omega
            unfold qLk
            rw [sJ_1, sJ_ne hne]
            unfold f_LA_spillAt
            rw [sI_ne hne2, sI_ne hne2]
            refine ⟨r1, ?_, ?_, r4, r5, r6, r7, r8⟩
            · rw [r2]; exact (qs_M e).symm
            · rw [r3]; exact (qs_W (f := f) e).symm
        · refine g4.tr ⟨fun q hq => ?_, fun q hq => ?_, ?_, ?_⟩
          · rw [sJ_1]; unfold f_LA_spillAt; rw [sI_ne (by omega), sI_ne (by omega)]
          · rw [sJ_ne (by omega)]; rfl
          · rw [sJ_off (by decide)]; rfl
          · rw [sJ_off (by decide)]; rfl)
  rw [show f_LK_spillToSea_L16 s (nI f) FU (sJ μ 26 5 ((μ.2 26 5) ||| (f_LR_only (nI f)))) 0 = some v from h1]
  exact ⟨v, rfl, h2, h3⟩
end UNDERC
