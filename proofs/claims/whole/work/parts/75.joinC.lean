/-! ===== a field goes under: the class, joins ===== -/
section JOINC
variable {w n : Nat} {ld : Nat → Bool} {ht : Nat → Int32} {dn : Nat → Int32} {σ : qLS} {U T : Nat → Bool} {f : Nat} {b : Bool} {μ : Mem}
theorem LA_begin_ne {o p : Nat} {x1 : Int64} {x3 x4 : Int32} (h : p ≠ 28 + o) : (f_LA_begin μ o x1 x3 x4).1 p = μ.1 p ∧ (f_LA_begin μ o x1 x3 x4).2 p = μ.2 p := by
  unfold f_LA_begin
  refine ⟨?_, ?_⟩
  · rw [sI_ne h, sI_ne h, sI_ne h, sI_ne h, sI_ne h, sI_ne h, sI_ne h, sJ_1]
  · simp only [sI_2]
    rw [sJ_ne h]
theorem LA_begin_at {o : Nat} {x1 : Int64} {x3 x4 : Int32} : (f_LA_begin μ o x1 x3 x4).2 (28 + o) 0 = x1 ∧ (f_LA_begin μ o x1 x3 x4).1 (28 + o) 1 = -3 ∧ (f_LA_begin μ o x1 x3 x4).1 (28 + o) 2 = -3 ∧ (f_LA_begin μ o x1 x3 x4).1 (28 + o) 3 = (if x4 < x3 then x4 else x3) ∧ (f_LA_begin μ o x1 x3 x4).1 (28 + o) 4 = (if x3 < x4 then x4 else x3) ∧ (f_LA_begin μ o x1 x3 x4).1 (28 + o) 5 = 0 ∧ (f_LA_begin μ o x1 x3 x4).1 (28 + o) 6 = 0 ∧ (f_LA_begin μ o x1 x3 x4).1 (28 + o) 7 = 0 := by
  unfold f_LA_begin
  refine ⟨?_, ?_, ?_, ?_, ?_, ?_, ?_, ?_⟩
  · simp only [sI_2]; rw [sJ_at]
  · rw [sI_off (by decide), sI_off (by decide), sI_off (by decide), sI_off (by decide), sI_off (by decide), sI_off (by decide), sI_at]
  · rw [sI_off (by decide), sI_off (by decide), sI_off (by decide), sI_off (by decide), sI_off (by decide), sI_at]
  · rw [sI_off (by decide), sI_off (by decide), sI_off (by decide), sI_off (by decide), sI_at]
  · rw [sI_off (by decide), sI_off (by decide), sI_off (by decide), sI_at]
  · rw [sI_off (by decide), sI_off (by decide), sI_at]
  · rw [sI_off (by decide), sI_at]
  · rw [sI_at]
theorem LK_make {N : Nat} (h : μ.1 26 1 = nI N) (hN : N < 35) (x1 : Int64) (x3 x4 : Int32) : f_LK_make μ x1 x3 x4 = some (nI N, sI (f_LA_begin μ N x1 x3 x4) 26 1 (nI (N + 1))) := by
  unfold f_LK_make
  rw [h, if_pos (show nI N < 35 from nI_lt (a := N) (b := 35) hN (by decide)), G_n (by omega) (by decide), cl (by omega), (LA_begin_ne (show 26 ≠ 28 + N by omega)).1, h, nI_1]
theorem LK_isLake {N l : Nat} (h : μ.1 26 1 = nI N) (hl : l < N) (hN : N < 1000) : f_LK_isLake μ (nI l) = 1 := by
  unfold f_LK_isLake
  rw [if_neg (nI_pos (by omega)), h, if_neg (nI_ge hl (by omega))]
theorem nI_min {a b : Nat} (ha : a < 2147483648) (hb : b < 2147483648) : (if nI b < nI a then nI b else nI a) = nI (min a b) := by
  by_cases c : b < a
  · rw [if_pos (nI_lt c ha), Nat.min_eq_right (by omega)]
  · rw [if_neg (nI_nlt (by omega) hb), Nat.min_eq_left (by omega)]
theorem nI_max {a b : Nat} (ha : a < 2147483648) (hb : b < 2147483648) : (if nI a < nI b then nI b else nI a) = nI (max a b) := by
  by_cases c : a < b
  · rw [if_pos (nI_lt c hb), Nat.max_eq_right (by omega)]
  · rw [if_neg (nI_nlt (by omega) ha), Nat.max_eq_left (by omega)]
theorem LK_makeDouble (hR : qRC μ σ) (hN : qN σ < 35) {t k : Nat} (ht' : t < qN σ) (hk : k < qN σ) (hne : t ≠ k) : ∃ a, f_LK_makeDouble μ (nI t) (nI k) (nI f) = some (nI (qN σ), a) ∧ qRC a (qdbl σ f t k) ∧ qFr μ a := by
  unfold f_LK_makeDouble
  rw [LK_isLake hR.1 ht' (by omega), LK_isLake hR.1 hk (by omega), if_neg (by decide), if_neg (by decide)]
  rw [LK_make hR.1 hN]
  simp only [G_n (show t < 35 by omega) (show 35 < 2147483648 by decide), G_n (show k < 35 by omega) (show 35 < 2147483648 by decide), Option.bind_some]
  rw [cl (by omega), cl (by omega)]
  refine ⟨_, rfl, ?_, ?_⟩
  · refine ⟨?_, ?_, ?_⟩
    · unfold f_LA_spillAt
      rw [sI_ne (by omega), sI_ne (by omega), sI_ne (by omega), sI_ne (by omega), sI_at]
      rfl
    · intro g
      show bit ((f_LA_begin μ (qN σ) (μ.2 (28 + t) 0 ||| μ.2 (28 + k) 0) (nI t) (nI k)).2 26 5) g = _
      rw [(LA_begin_ne (show 26 ≠ 28 + qN σ by omega)).2]
      exact hR.2.1 g
    · intro l hl
      rcases qd_lt hl with q | q
      · obtain ⟨r1, r2, r3, r4, r5, r6, r7, r8⟩ := hR.2.2 l q
        have hlN : 28 + l ≠ 28 + qN σ := by omega
        have b1 := LA_begin_ne (μ := μ) (x1 := (μ.2 (28 + t) 0 ||| μ.2 (28 + k) 0)) (x3 := nI t) (x4 := nI k) hlN
        have f0 : ∀ (x y : Int32) (c : Mem), (f_LA_spillAt (f_LA_spillAt c t (nI f) x) k (nI f) y).2 = c.2 := fun _ _ _ => rfl
        unfold qLk
        rw [f0, sI_2, b1.2, qd_F q, qd_A q, qd_B q]
        unfold f_LA_spillAt
        by_cases e1 : l = k
        · subst e1
          rw [qd_Mb, qd_Wb]
          refine ⟨r1, ?_, ?_, ?_, ?_, ?_, ?_, ?_⟩
          · rw [sI_off (by decide), sI_at]
          · rw [sI_at]
          all_goals
            rw [sI_off (by decide), sI_off (by decide), sI_ne (by omega), sI_ne (by omega), sI_ne (by omega), b1.1]
            assumption
        · rw [sI_ne (show 28 + l ≠ 28 + k by omega), sI_ne (show 28 + l ≠ 28 + k by omega)]
          by_cases e2 : l = t
          · subst e2
            rw [qd_Ma hne, qd_Wa hne]
            refine ⟨r1, ?_, ?_, ?_, ?_, ?_, ?_, ?_⟩
            · rw [sI_off (by decide), sI_at]
            · rw [sI_at]
            all_goals
              rw [sI_off (by decide), sI_off (by decide), sI_ne (by omega), b1.1]
              assumption
          · rw [sI_ne (show 28 + l ≠ 28 + t by omega), sI_ne (show 28 + l ≠ 28 + t by omega), sI_ne (by omega), b1.1, qd_M q e2 e1, qd_W q e2 e1]
            exact ⟨r1, r2, r3, r4, r5, r6, r7, r8⟩
      · subst q
        have b1 := LA_begin_at (μ := μ) (o := qN σ) (x1 := (μ.2 (28 + t) 0 ||| μ.2 (28 + k) 0)) (x3 := nI t) (x4 := nI k)
        obtain ⟨c1, c2, c3, c4, c5, c6, c7, c8⟩ := b1
        have f0 : ∀ (x y : Int32) (c : Mem), (f_LA_spillAt (f_LA_spillAt c t (nI f) x) k (nI f) y).2 = c.2 := fun _ _ _ => rfl
        have f1 : ∀ (x y : Int32) (c : Mem), (f_LA_spillAt (f_LA_spillAt c t (nI f) x) k (nI f) y).1 (28 + qN σ) = c.1 (28 + qN σ) := by
          intro x y c
          unfold f_LA_spillAt
          rw [sI_ne (by omega), sI_ne (by omega), sI_ne (by omega), sI_ne (by omega)]
        unfold qLk
        rw [f0, f1, sI_2, sI_ne (by omega), c1, c2, c3, c4, c5, qd_MN ht' hk, qd_WN ht' hk, qd_AN, qd_BN, nI_min (by omega) (by omega), nI_max (by omega) (by omega)]
        refine ⟨fun g => ?_, rfl, rfl, rfl, rfl, c6, c7, c8⟩
        rw [bit_or, (hR.2.2 t ht').1 g, (hR.2.2 k hk).1 g]
        exact (congrFun (va_up_self (qF σ) (qN σ) (fun g => qF σ t g || qF σ k g)) g).symm
  · refine ⟨fun q hq => ?_, fun q hq => ?_, ?_, ?_⟩
    · unfold f_LA_spillAt
      rw [sI_ne (by omega), sI_ne (by omega), sI_ne (by omega), sI_ne (by omega), sI_ne (by omega), (LA_begin_ne (by omega)).1]
    · show (f_LA_begin μ (qN σ) (μ.2 (28 + t) 0 ||| μ.2 (28 + k) 0) (nI t) (nI k)).2 q = _
      rw [(LA_begin_ne (by omega)).2]
    · show (f_LA_begin μ (qN σ) (μ.2 (28 + t) 0 ||| μ.2 (28 + k) 0) (nI t) (nI k)).2 26 2 = _
      rw [(LA_begin_ne (by omega)).2]
    · show (f_LA_begin μ (qN σ) (μ.2 (28 + t) 0 ||| μ.2 (28 + k) 0) (nI t) (nI k)).2 26 3 = _
      rw [(LA_begin_ne (by omega)).2]
theorem LK_joinAt (hR : qRC μ σ) (hN : qN σ ≤ 35) (s : Int64) (hP : ∀ k, k ≤ qN σ → qPj w n ld dn U (bit s) f σ (qjns (bit s) f σ k) k) : ∃ a, f_LK_joinAt μ s (nI f) = some (encN (qjns (bit s) f σ (qN σ)).1, a) ∧ qRC a (qjns (bit s) f σ (qN σ)).2 ∧ qFr μ a := by
  unfold f_LK_joinAt
  rw [hR.1]
  obtain ⟨v, h1, h2, h3, h4⟩ := lp_0 (fun m (a : Int32 × Mem) k => f_LK_joinAt_L13 s (nI f) (nI (qN σ)) m a.2 a.1 (nI k)) (fun k a => a.1 = encN (qjns (bit s) f σ k).1 ∧ qRC a.2 (qjns (bit s) f σ k).2 ∧ qFr μ a.2) (fun a => a.1 = encN (qjns (bit s) f σ (qN σ)).1 ∧ qRC a.2 (qjns (bit s) f σ (qN σ)).2 ∧ qFr μ a.2) (qN σ) (-3, μ) (by omega)
    ⟨rfl, hR, qFr.rf⟩
    (fun m a g => ⟨a, by
      show f_LK_joinAt_L13 s (nI f) (nI (qN σ)) (m + 1) a.2 a.1 (nI (qN σ)) = _
      rw [f_LK_joinAt_L13.eq_2, if_pos (Int32.le_refl _)], g⟩)
    (fun m a k hk g => by
      obtain ⟨y, a⟩ := a
      obtain ⟨g1, g2, g3⟩ := g
      dsimp only at g1 g2 g3
      subst g1
      show ∃ a' : Int32 × Mem, _ ∧ f_LK_joinAt_L13 s (nI f) (nI (qN σ)) (m + 1) a (encN (qjns (bit s) f σ k).1) (nI k) = f_LK_joinAt_L13 s (nI f) (nI (qN σ)) m a'.2 a'.1 (nI (k + 1))
      rw [f_LK_joinAt_L13.eq_2, if_neg (nI_ge hk (by omega)), isIn_eq _ (by omega), nI_1]
      by_cases c : bit s k = true
      case neg =>
        rw [if_neg c, if_pos rfl, qjns_f (Bool.eq_false_iff.mpr c)]
        exact ⟨(encN (qjns (bit s) f σ k).1, a), ⟨rfl, g2, g3⟩, rfl⟩
      case pos =>
        rw [if_pos c, if_neg (by decide : ¬ (1 : Int32) = 0)]
        cases e : (qjns (bit s) f σ k).1 with
        | none =>
          rw [show encN none = -3 from rfl, if_pos rfl, qjns_n c e]
          exact ⟨(nI k, a), ⟨rfl, g2, g3⟩, rfl⟩
        | some t =>
          obtain ⟨p1, p2, p3, p4, p5, p6, p7, p8⟩ := hP k (by omega)
          obtain ⟨t1, t2, t3, -⟩ := p8 t e
          have b35 := (hP (k + 1) (by omega)).2.1
          rw [qjns_s c e, qd_N] at b35
          rw [show encN (some t) = nI t from rfl, if_neg (nI_n3 (by omega)), qjns_s c e]
          obtain ⟨a', d1, d2, d3⟩ := LK_makeDouble (f := f) g2 (by omega) t1 (show k < _ by omega) (by omega)
          rw [d1]
          exact ⟨(nI (qN (qjns (bit s) f σ k).2), a'), ⟨rfl, d2, g3.tr d3⟩, rfl⟩)
  rw [show f_LK_joinAt_L13 s (nI f) (nI (qN σ)) FU μ (-3) 0 = some v from h1]
  obtain ⟨y, a⟩ := v
  dsimp only at h2 h3 h4
  subst h2
  exact ⟨a, rfl, h3, h4⟩
theorem LK_addField {τ : qLS} {a : Mem} {t : Nat} (hR : qRC a τ) (hf : f < 64) (ht' : t < qN τ) : qRC (sJ a (28 + t) 0 (a.2 (28 + t) 0 ||| f_LR_only (nI f))) (qadf τ f t) ∧ qFr a (sJ a (28 + t) 0 (a.2 (28 + t) 0 ||| f_LR_only (nI f))) := by
  refine ⟨⟨hR.1, fun g => ?_, fun l hl => ?_⟩, fun _ _ => rfl, fun q hq => sJ_ne (by omega), by rw [sJ_ne (by omega)], by rw [sJ_ne (by omega)]⟩
  · rw [sJ_ne (by omega)]; exact hR.2.1 g
  · obtain ⟨r1, r2⟩ := hR.2.2 l hl
    refine ⟨fun g => ?_, r2⟩
    by_cases e : l = t
    · subst e
      rw [sJ_at, bit_or, bit_only hf, r1 g]
      exact (congrFun (va_up_self (qF τ) l (fun g => qF τ l g || decide (g = f))) g).symm
    · rw [sJ_ne (by omega), qf_F e]; exact r1 g
theorem LK_goUnder (hz : Sz w n ld) (h : ReC w n ld ht μ) (hb : NbC w n ld μ) (hR : qRC μ σ) (hdn : ∀ f, ld f = true → Dn ht (nbr w n ld f) f (dn f)) (hN : qN σ ≤ 35) (hI : qInv w n ld dn σ U) (hU : ∀ g, U g = true ↔ ld g = true ∧ lw ht g f = true) (hlf : ld f = true) : ∃ (b : Bool) (T : Nat → Bool) (a : Mem), qTs w n ld σ f T ∧ qbs w n ld σ f b ∧ f_LK_goUnder μ (nI f) = some a ∧ qRC a (qgo b T σ f) ∧ qFr μ a := by
  have hf : f < n := hz.2.2.2.2 f hlf
  have hn := hz.2.2.1
  obtain ⟨v, v1, v2⟩ := LK_topsBeside hz h hb hR hN hI.2.1 hf
  obtain ⟨b, b1, b2⟩ := LK_isBesideSeas hz h hb hR hf
  unfold f_LK_goUnder
  rw [v1, b1]
  simp only [Option.bind_some]
  have hG := qgo_P hz hdn (by omega) hI hU v2 b2 hlf
  cases cb : b with
  | true =>
    obtain ⟨a, a1, a2, a3⟩ := LK_spillToSea (f := f) hR hN (by omega) v
    refine ⟨true, bit v, a, v2, cb ▸ b2, ?_, ?_, a3⟩
    · simp [a1]
    · unfold qgo; rw [if_pos rfl]; exact a2
  | false =>
    rw [cb] at hG
    have hP := qjns_P (f := f) hz hdn (by omega) hI v2 hf hlf
    have lgv : lg_cmp v 0 = 0 ↔ (qjns (bit v) f σ (qN σ)).1 = none := by
      rw [lg_eq0]
      constructor
      · intro e
        cases c : (qjns (bit v) f σ (qN σ)).1 with
        | none => rfl
        | some t =>
          exfalso
          have : ∀ k, (qjns (bit v) f σ k).1 = none := by
            intro k
            induction k with
            | zero => rfl
            | succ k ih => rw [qjns_f (by rw [e]; exact bit_0 k)]; exact ih
          rw [this] at c; cases c
      · intro e
        have q := ((hP (qN σ) (Nat.le_refl _)).2.2.2.2.2.2.1 e).2
        apply bit_ext
        intro l hl
        rw [bit_0]
        cases c : bit v l with
        | false => rfl
        | true =>
          have := ((v2 l).mp c).1
          rw [q l this] at c; cases c
    refine ⟨false, bit v, ?_⟩
    cases e : (qjns (bit v) f σ (qN σ)).1 with
    | none =>
      unfold qgo at hG ⊢
      rw [if_neg (by decide), e] at hG
      dsimp only at hG
      rw [if_neg (by decide : ¬ (false = true)), e]
      dsimp only
      have hN35 : qN σ < 35 := by have := hG.2; rw [qg_N] at this; omega
      rw [if_pos (lgv.mpr e), LK_make hR.1 hN35]
      have e1 : (sI (f_LA_begin μ (qN σ) 0 (-3) (-3)) 26 1 (nI (qN σ + 1))).1 26 1 = nI (qN σ + 1) := sI_at
      simp only [Option.bind_some, Bool.false_eq_true, if_false, if_true]
      rw [LK_isLake e1 (by omega) (by omega), if_neg (by decide), G_n (by omega) (by decide), cl (by omega)]
      refine ⟨_, v2, cb ▸ b2, rfl, ⟨?_, ?_, ?_⟩, ?_⟩
      · exact e1
      · intro g
        rw [sJ_ne (by omega), sI_2, (LA_begin_ne (show 26 ≠ 28 + qN σ by omega)).2]
        exact hR.2.1 g
      · intro l hl
        rcases qg_lt hl with q | q
        · unfold qLk
          rw [sJ_ne (by omega), sJ_1, sI_2, sI_ne (by omega), (LA_begin_ne (show 28 + l ≠ 28 + qN σ by omega)).1, (LA_begin_ne (show 28 + l ≠ 28 + qN σ by omega)).2, qg_F q, qg_M q, qg_W q, qg_A q, qg_B q]
          exact hR.2.2 l q
        · subst q
          obtain ⟨c1, c2, c3, c4, c5, c6, c7, c8⟩ := LA_begin_at (μ := μ) (o := qN σ) (x1 := 0) (x3 := -3) (x4 := -3)
          unfold qLk
          rw [sJ_at, sJ_1, sI_2, sI_ne (by omega), c1, c2, c3, c4, c5, qg_MN, qg_WN, qg_AN, qg_BN]
          refine ⟨fun g => ?_, rfl, rfl, rfl, rfl, c6, c7, c8⟩
          rw [bit_or, bit_0, bit_only (by omega), Bool.false_or]
          exact (congrFun (va_up_self (qF σ) (qN σ) (fun g => decide (g = f))) g).symm
      · refine ⟨fun q hq => ?_, fun q hq => ?_, ?_, ?_⟩
        · rw [sJ_1, sI_ne (by omega), (LA_begin_ne (by omega)).1]
        · rw [sJ_ne (by omega), sI_2, (LA_begin_ne (by omega)).2]
        · rw [sJ_ne (by omega), sI_2, (LA_begin_ne (by omega)).2]
        · rw [sJ_ne (by omega), sI_2, (LA_begin_ne (by omega)).2]
    | some t =>
      obtain ⟨p1, p2, p3, p4, p5, p6, p7, p8⟩ := hP (qN σ) (Nat.le_refl _)
      obtain ⟨t1, -⟩ := p8 t e
      obtain ⟨a, a1, a2, a3⟩ := LK_joinAt hR hN v hP
      have hc : ¬ lg_cmp v 0 = 0 := fun q => by rw [lgv, e] at q; cases q
      obtain ⟨f1, f2⟩ := LK_addField (f := f) a2 (by omega) t1
      rw [if_neg hc, a1, e]
      simp only [Option.bind_some, Bool.false_eq_true, if_false, if_true]
      rw [show encN (some t) = nI t from rfl, LK_isLake a2.1 t1 (by omega), if_neg (by decide), G_n (by omega) (by decide), cl (by omega)]
      refine ⟨_, v2, cb ▸ b2, rfl, ?_, a3.tr f2⟩
      unfold qgo
      rw [if_neg (by decide : ¬ (false = true)), e]
      exact f1
end JOINC
