/-! ===== islands: the reference ===== -/
section ISLM
variable {w n m : Nat} {ld : Nat → Bool} {ht : Nat → Int32} {od : Nat → Nat} {dn we : Nat → Int32} {σ : qLS} {A : Nat → Bool} {μ ν : Mem}
/-- the labels -/
def IlI (w n : Nat) (ld A : Nat → Bool) (a : Mem) (lab : Nat → Nat) : Prop := (∀ f, f < n → a.1 85 f = if A f = true then nI (lab f) else -3) ∧ ∀ f, A f = true → lab f ≤ f ∧ A (lab f) = true ∧ Con w n ld A (lab f) f
/-- within a pass -/
def IlP (w n : Nat) (ld A : Nat → Bool) (lab0 lab : Nat → Nat) (mv : Bool) (T : Nat → Nat → Prop) : Prop := (∀ x, x < n → lab x ≤ lab0 x) ∧ (mv = false → ∀ x, x < n → lab x = lab0 x) ∧ (mv = true → fb_sm lab n < fb_sm lab0 n) ∧ (mv = false → ∀ x k g, T x k → A x = true → nbr w n ld x k = some g → A g = true → lab0 x ≤ lab0 g)
theorem IlP.T {lab0 lab : Nat → Nat} {mv : Bool} {T T' : Nat → Nat → Prop} (h : IlP w n ld A lab0 lab mv T) (hT : ∀ x k, T' x k → T x k) : IlP w n ld A lab0 lab mv T' := ⟨h.1, h.2.1, h.2.2.1, fun e x k g hx => h.2.2.2 e x k g (hT x k hx)⟩
theorem MO_isl0 (hz : Sz w n ld) (M : ReM w n ld ht ν) (v : Int32) (hA : ∀ f, A f = true ↔ (ld f = true ∧ v ≤ ν.1 71 f)) : ∃ a, f_MO_islands_L28 v FU ν 0 = some a ∧ IlI w n ld A a (fun f => f) ∧ (∀ q, q ≠ 85 → a.1 q = ν.1 q) ∧ a.2 = ν.2 := by
  have hn := hz.2.2.1
  obtain ⟨a, a1, a2, a3, a4⟩ := lp_0 (fun i a k => f_MO_islands_L28 v i a (nI k)) (fun k a => (∀ f, f < k → a.1 85 f = if A f = true then nI f else -3) ∧ (∀ q, q ≠ 85 → a.1 q = ν.1 q) ∧ a.2 = ν.2) (fun a => (∀ f, f < n → a.1 85 f = if A f = true then nI f else -3) ∧ (∀ q, q ≠ 85 → a.1 q = ν.1 q) ∧ a.2 = ν.2) n ν (by omega)
    ⟨fun f hf => absurd hf (Nat.not_lt_zero f), fun _ _ => rfl, rfl⟩
    (fun i a g => ⟨a, by
      show f_MO_islands_L28 v (i + 1) a (nI n) = _
      rw [f_MO_islands_L28.eq_2, g.2.1 63 (by decide), M.2.1, if_pos (Int32.le_refl _)], g⟩)
    (fun i a k hk g => by
      refine ⟨sI a 85 k (if A k = true then nI k else -3), ⟨fun f hf => ?_, fun q hq => by rw [sI_ne hq]; exact g.2.1 q hq, g.2.2⟩, ?_⟩
      · by_cases e : f = k
        · subst e; rw [sI_at]
        · rw [sI_off e]; exact g.1 f (by omega)
      · show f_MO_islands_L28 v (i + 1) a (nI k) = f_MO_islands_L28 v i _ (nI (k + 1))
        rw [f_MO_islands_L28.eq_2, g.2.1 63 (by decide), g.2.1 67 (by decide), g.2.1 71 (by decide), M.2.1, if_neg (nI_ge hk (by omega)), nI_1]
        simp only [G_n (show k < 64 by omega) (show 64 < 2147483648 by decide)]
        rw [cl (by omega), M.2.2.1 k hk]
        by_cases c : ld k = true
        · rw [if_pos c, if_pos rfl]
          by_cases d : v ≤ ν.1 71 k
          · rw [if_pos d, if_pos ((hA k).mpr ⟨c, d⟩)]; rfl
          · rw [if_neg d, if_neg (fun q => d ((hA k).mp q).2)]; rfl
        · rw [if_neg c, if_neg n10, if_neg (fun q => c ((hA k).mp q).1)]; rfl)
  exact ⟨a, a1, ⟨a2, fun f hf => ⟨Nat.le_refl _, hf, Con.rf⟩⟩, a3, a4⟩
theorem neg3 : (-3 : Int32) < 0 := by decide
theorem MO_isl_sides (hz : Sz w n ld) (M : ReM w n ld ht ν) (hA : ∀ f, A f = true → ld f = true) {f : Nat} (hf : f < n) {lab0 lab : Nat → Nat} {mv : Bool} {a : Mem} (hI : IlI w n ld A a lab) (hP : IlP w n ld A lab0 lab mv (fun x k => x < f ∧ k < 4)) (hfr : (∀ q, q ≠ 85 → a.1 q = ν.1 q) ∧ a.2 = ν.2) :
    ∃ (mv' : Bool) (lab' : Nat → Nat) (a' : Mem), f_MO_islands_L94 (nI f) FU a (if mv = true then 1 else 0) 0 = some ((if mv' = true then 1 else 0), a') ∧ IlI w n ld A a' lab' ∧ IlP w n ld A lab0 lab' mv' (fun x k => x < f + 1 ∧ k < 4) ∧ ((∀ q, q ≠ 85 → a'.1 q = ν.1 q) ∧ a'.2 = ν.2) := by
  have hn := hz.2.2.1
  by_cases cA : A f = true
  · obtain ⟨v, v1, mv', lab', a', rfl, v3, v4, v5⟩ := lp_0 (fun i (x : Int32 × Mem) k => f_MO_islands_L94 (nI f) i x.2 x.1 (nI k))
      (fun K x => ∃ (mv' : Bool) (lab' : Nat → Nat) (a' : Mem), x = ((if mv' = true then 1 else 0), a') ∧ IlI w n ld A a' lab' ∧ IlP w n ld A lab0 lab' mv' (fun x k => (x < f ∧ k < 4) ∨ (x = f ∧ k < K)) ∧ ((∀ q, q ≠ 85 → a'.1 q = ν.1 q) ∧ a'.2 = ν.2))
      (fun x => ∃ (mv' : Bool) (lab' : Nat → Nat) (a' : Mem), x = ((if mv' = true then 1 else 0), a') ∧ IlI w n ld A a' lab' ∧ IlP w n ld A lab0 lab' mv' (fun x k => x < f + 1 ∧ k < 4) ∧ ((∀ q, q ≠ 85 → a'.1 q = ν.1 q) ∧ a'.2 = ν.2)) 4 ((if mv = true then 1 else 0), a) (by decide)
      ⟨mv, lab, a, rfl, hI, hP.T (fun x k h => by omega), hfr⟩
      (fun i x g => by
        obtain ⟨mv', lab', a', rfl, g1, g2, g3⟩ := g
        refine ⟨_, ?_, mv', lab', a', rfl, g1, g2.T (fun x k h => by omega), g3⟩
        show f_MO_islands_L94 (nI f) (i + 1) a' (if mv' = true then 1 else 0) (nI 4) = _
        rw [f_MO_islands_L94.eq_2, if_pos (by decide)])
      (fun i x K hK g => by
        obtain ⟨mv', lab', a', rfl, g1, g2, g3⟩ := g
        have Ma : ReM w n ld ht a' := M.of (by rw [g3.1 63 (by decide)]) (by rw [g3.1 63 (by decide)]) (g3.1 67 (by decide)) (g3.1 68 (by decide))
        have lf := (g1.2 f cA).1
        show ∃ x' : Int32 × Mem, _ ∧ f_MO_islands_L94 (nI f) (i + 1) a' (if mv' = true then 1 else 0) (nI K) = f_MO_islands_L94 (nI f) i x'.2 x'.1 (nI (K + 1))
        obtain ⟨v, s1, s2⟩ := MO_side hz Ma hf hK
        have ef : a'.1 85 f = nI (lab' f) := by rw [g1.1 f hf, if_pos cA]
        rw [f_MO_islands_L94.eq_2, if_neg (nge 4 (b := 4) rfl hK (by decide))]
        simp only [G_n (show f < 64 by omega) (show 64 < 2147483648 by decide)]
        rw [cl (by omega), ef, if_neg (nI_pos (by omega)), s1, nI_1]
        simp only [Option.bind_some]
        have skip : (∀ y, nbr w n ld f K = some y → A y = true → mv' = false → lab0 f ≤ lab0 y) → ∃ (mv'' : Bool) (lab'' : Nat → Nat) (a'' : Mem), ((if mv' = true then 1 else 0, a') : Int32 × Mem) = ((if mv'' = true then 1 else 0), a'') ∧ IlI w n ld A a'' lab'' ∧ IlP w n ld A lab0 lab'' mv'' (fun x k => (x < f ∧ k < 4) ∨ (x = f ∧ k < K + 1)) ∧ ((∀ q, q ≠ 85 → a''.1 q = ν.1 q) ∧ a''.2 = ν.2) := by
          intro hs
          refine ⟨mv', lab', a', rfl, g1, ⟨g2.1, g2.2.1, g2.2.2.1, fun e x k y hT hx hy hAy => ?_⟩, g3⟩
          by_cases q : x = f ∧ k = K
          · obtain ⟨rfl, rfl⟩ := q
            exact hs y hy hAy e
          · exact g2.2.2.2 e x k y (by omega) hx hy hAy
        rcases s2 with ⟨rfl, e1, -⟩ | ⟨g, e0, rfl, e1, e2, -⟩ | ⟨g, e0, rfl, e1, e2, -⟩
        · rw [if_pos rfl]
          exact ⟨_, skip (fun y hy => by rw [e1] at hy; cases hy), rfl⟩
        · have nA : ¬ A g = true := fun q => by rw [hA g q] at e1; cases e1
          rw [if_neg (fun q => by have := nI_inj (a := g) (b := 64) (by omega) (by decide) q; omega)]
          simp only [G_n (show g < 64 by omega) (show 64 < 2147483648 by decide)]
          rw [cl (by omega), g1.1 g e0, if_neg nA, if_pos neg3]
          exact ⟨_, skip (fun y hy => by rw [e2] at hy; cases hy), rfl⟩
        · rw [if_neg (fun q => by have := nI_inj (a := g) (b := 64) (by omega) (by decide) q; omega)]
          simp only [G_n (show g < 64 by omega) (show 64 < 2147483648 by decide)]
          rw [cl (by omega), g1.1 g e0]
          by_cases cg : A g = true
          · have lg := (g1.2 g cg).1
            rw [if_pos cg, if_neg (nI_pos (by omega))]
            by_cases d : lab' f ≤ lab' g
            · rw [if_pos (nI_le d (by omega))]
              refine ⟨_, skip (fun y hy hAy e => ?_), rfl⟩
              rw [e2] at hy
              cases hy
              rw [← g2.2.1 e f hf, ← g2.2.1 e g e0]
              exact d
            · rw [if_neg (nI_ge (by omega) (by omega))]
              have hup : ∀ x, va_up lab' f (lab' g) x = if x = f then lab' g else lab' x := fun x => by
                by_cases r : x = f
                · rw [if_pos r, r, va_up_self]
                · rw [if_neg r, va_up_ne _ _ r]
              refine ⟨((1 : Int32), sI a' 85 f (nI (lab' g))), ⟨true, va_up lab' f (lab' g), _, rfl, ⟨fun x hx => ?_, fun x hx => ?_⟩, ⟨fun x hx => ?_, fun e => (by cases e), fun _ => ?_, fun e => (by cases e)⟩, fun q hq => by rw [sI_ne hq]; exact g3.1 q hq, g3.2⟩, rfl⟩
              · rw [hup]
                by_cases r : x = f
                · subst r; rw [sI_at, if_pos cA, if_pos rfl]
                · rw [sI_off r, if_neg r]; exact g1.1 x hx
              · rw [hup]
                by_cases r : x = f
                · subst r
                  rw [if_pos rfl]
                  obtain ⟨p1, p2, p3⟩ := g1.2 g cg
                  obtain ⟨k', k1, k2⟩ := nbr_sym hz (hA x cA) hK e2
                  exact ⟨by omega, p2, p3.st cg k1 k2 cA⟩
                · rw [if_neg r]; exact g1.2 x hx
              · rw [hup]
                by_cases r : x = f
                · subst r
                  rw [if_pos rfl]
                  have := g2.1 x hx
                  omega
                · rw [if_neg r]; exact g2.1 x hx
              · have u := fb_sm_upd lab' (lab' g) hf
                have u2 : fb_sm (va_up lab' f (lab' g)) n = fb_sm (fun k => if k = f then lab' g else lab' k) n := fb_sm_cong (fun k _ => hup k)
                have u3 := fb_sm_le (f := lab') (g := lab0) (n := n) (fun k hk => g2.1 k hk)
                rw [u2]
                omega
          · rw [if_neg cg, if_pos neg3]
            exact ⟨_, skip (fun y hy hAy => by rw [e2] at hy; cases hy; exact absurd hAy cg), rfl⟩)
    exact ⟨mv', lab', a', v1, v3, v4, v5⟩
  · refine ⟨mv, lab, a, ?_, hI, ⟨hP.1, hP.2.1, hP.2.2.1, fun e x k y hT hx hy hAy => ?_⟩, hfr⟩
    · show f_MO_islands_L94 (nI f) (999999 + 1) a _ (nI 0) = _
      rw [f_MO_islands_L94.eq_2, if_neg (by decide), G_n (by omega) (by decide), cl (by omega), hI.1 f hf, if_neg cA, if_pos neg3]
    · have : x ≠ f := fun q => cA (q ▸ hx)
      exact hP.2.2.2 e x k y (by omega) hx hy hAy
theorem MO_isl_pass (hz : Sz w n ld) (M : ReM w n ld ht ν) (hA : ∀ f, A f = true → ld f = true) {lab : Nat → Nat} {a : Mem} (hI : IlI w n ld A a lab) (hfr : (∀ q, q ≠ 85 → a.1 q = ν.1 q) ∧ a.2 = ν.2) :
    ∃ (mv' : Bool) (lab' : Nat → Nat) (a' : Mem), f_MO_islands_L83 FU a 0 0 = some ((if mv' = true then 1 else 0), a') ∧ IlI w n ld A a' lab' ∧ IlP w n ld A lab lab' mv' (fun x k => x < n ∧ k < 4) ∧ ((∀ q, q ≠ 85 → a'.1 q = ν.1 q) ∧ a'.2 = ν.2) := by
  have hn := hz.2.2.1
  obtain ⟨v, v1, mv', lab', a', rfl, v3⟩ := lp_0 (fun i (x : Int32 × Mem) k => f_MO_islands_L83 i x.2 x.1 (nI k))
    (fun K x => ∃ (mv' : Bool) (lab' : Nat → Nat) (a' : Mem), x = ((if mv' = true then 1 else 0), a') ∧ IlI w n ld A a' lab' ∧ IlP w n ld A lab lab' mv' (fun x k => x < K ∧ k < 4) ∧ ((∀ q, q ≠ 85 → a'.1 q = ν.1 q) ∧ a'.2 = ν.2))
    (fun x => ∃ (mv' : Bool) (lab' : Nat → Nat) (a' : Mem), x = ((if mv' = true then 1 else 0), a') ∧ IlI w n ld A a' lab' ∧ IlP w n ld A lab lab' mv' (fun x k => x < n ∧ k < 4) ∧ ((∀ q, q ≠ 85 → a'.1 q = ν.1 q) ∧ a'.2 = ν.2)) n ((0 : Int32), a) (by omega)
    ⟨false, lab, a, rfl, hI, ⟨fun _ _ => Nat.le_refl _, fun _ _ _ => rfl, fun e => (by cases e), fun _ x k g hT => absurd hT.1 (Nat.not_lt_zero x)⟩, hfr⟩
    (fun i x g => by
      obtain ⟨mv', lab', a', rfl, g1, g2, g3⟩ := g
      refine ⟨_, ?_, mv', lab', a', rfl, g1, g2, g3⟩
      show f_MO_islands_L83 (i + 1) a' (if mv' = true then 1 else 0) (nI n) = _
      rw [f_MO_islands_L83.eq_2, g3.1 63 (by decide), M.2.1, if_pos (Int32.le_refl _)])
    (fun i x K hK g => by
      obtain ⟨mv', lab', a', rfl, g1, g2, g3⟩ := g
      obtain ⟨mv2, lab2, a2, h1, h2, h3, h4⟩ := MO_isl_sides hz M hA hK g1 g2 g3
      refine ⟨((if mv2 = true then 1 else 0), a2), ⟨mv2, lab2, a2, rfl, h2, h3, h4⟩, ?_⟩
      show f_MO_islands_L83 (i + 1) a' (if mv' = true then 1 else 0) (nI K) = f_MO_islands_L83 i a2 (if mv2 = true then 1 else 0) (nI (K + 1))
      rw [f_MO_islands_L83.eq_2, g3.1 63 (by decide), M.2.1, if_neg (nI_ge hK (by omega)), h1, nI_1]
      rfl)
  exact ⟨mv', lab', a', v1, v3⟩
theorem MO_isl_all (hz : Sz w n ld) (M : ReM w n ld ht ν) (hA : ∀ f, A f = true → ld f = true) : ∀ (S fuel : Nat) (lab : Nat → Nat) (a : Mem), fb_sm lab n ≤ S → S + 1 < fuel → IlI w n ld A a lab → ((∀ q, q ≠ 85 → a.1 q = ν.1 q) ∧ a.2 = ν.2) → ∃ (lab' : Nat → Nat) (a' : Mem), f_MO_islands_L75 fuel a 1 = some a' ∧ IlI w n ld A a' lab' ∧ (∀ x k g, k < 4 → A x = true → nbr w n ld x k = some g → A g = true → lab' x ≤ lab' g) ∧ ((∀ q, q ≠ 85 → a'.1 q = ν.1 q) ∧ a'.2 = ν.2) := by
  have e1 : ∀ i b, f_MO_islands_L75 (i + 1) b 1 = (f_MO_islands_L83 FU b 0 0).bind fun v15 => f_MO_islands_L75 i v15.2 v15.1 := fun i b => by rw [f_MO_islands_L75.eq_2, if_neg n10]
  intro S
  induction S with
  | zero =>
    intro fuel lab a hS hfu hI hfr
    obtain ⟨fuel, rfl⟩ : ∃ z, fuel = z + 2 := ⟨fuel - 2, by omega⟩
    obtain ⟨mv, lab', a', h1, h2, h3, h4⟩ := MO_isl_pass hz M hA hI hfr
    have hmv : mv = false := by
      cases e : mv with
      | false => rfl
      | true => have := h3.2.2.1 e; omega
    rw [e1, h1, hmv]
    simp only [Option.bind_some]
    refine ⟨lab', a', ?_, h2, fun x k g hk hx hg hAg => ?_, h4⟩
    · rw [f_MO_islands_L75.eq_2]; rfl
    · have xn := hz.2.2.2.2 x (hA x hx)
      have gn := hz.2.2.2.2 g (hA g hAg)
      rw [h3.2.1 hmv x xn, h3.2.1 hmv g gn]
      exact h3.2.2.2 hmv x k g ⟨xn, hk⟩ hx hg hAg
  | succ S ih =>
    intro fuel lab a hS hfu hI hfr
    obtain ⟨fuel, rfl⟩ : ∃ z, fuel = z + 2 := ⟨fuel - 2, by omega⟩
    obtain ⟨mv, lab', a', h1, h2, h3, h4⟩ := MO_isl_pass hz M hA hI hfr
    rw [e1, h1]
    simp only [Option.bind_some]
    cases hmv : mv with
    | false =>
      refine ⟨lab', a', ?_, h2, fun x k g hk hx hg hAg => ?_, h4⟩
      · rw [f_MO_islands_L75.eq_2]; rfl
      · have xn := hz.2.2.2.2 x (hA x hx)
        have gn := hz.2.2.2.2 g (hA g hAg)
        rw [h3.2.1 hmv x xn, h3.2.1 hmv g gn]
        exact h3.2.2.2 hmv x k g ⟨xn, hk⟩ hx hg hAg
    | true =>
      rw [if_pos rfl]
      have := h3.2.2.1 hmv
      exact ih (fuel + 1) lab' a' (by omega) (by omega) h2 h4
theorem MO_islC (hn : n ≤ 64) (h5 : ν.1 63 5 = nI n) : f_MO_islands_L186 ν FU 0 0 = some (nI (fb_ct (fun f => decide (ν.1 85 f = nI f)) n)) := by
  obtain ⟨x, h1, h2⟩ := lp_0 (fun i a k => f_MO_islands_L186 ν i a (nI k)) (fun k a => a = nI (fb_ct (fun f => decide (ν.1 85 f = nI f)) k)) (fun a => a = nI (fb_ct (fun f => decide (ν.1 85 f = nI f)) n)) n 0 (by omega) rfl
    (fun i a g => ⟨a, by
      show f_MO_islands_L186 ν (i + 1) a (nI n) = _
      rw [f_MO_islands_L186.eq_2, h5, if_pos (Int32.le_refl _)], g⟩)
    (fun i a k hk g => by
      subst g
      refine ⟨nI (fb_ct (fun f => decide (ν.1 85 f = nI f)) (k + 1)), rfl, ?_⟩
      show f_MO_islands_L186 ν (i + 1) _ (nI k) = f_MO_islands_L186 ν i _ (nI (k + 1))
      rw [f_MO_islands_L186.eq_2, h5, if_neg (nI_ge hk (by omega)), fb_ct_succ, G_n (by omega) (by decide), cl (by omega)]
      by_cases c : ν.1 85 k = nI k
      · rw [if_pos c, if_pos (show decide (ν.1 85 k = nI k) = true by simp [c])]
        simp only [Option.bind_some, nI_1]
      · rw [if_neg c, if_neg (show ¬ decide (ν.1 85 k = nI k) = true by simp [c])]
        simp only [Option.bind_some, nI_1, Nat.add_zero]
        rw [Int32.add_zero])
  rw [show f_MO_islands_L186 ν FU 0 0 = some x from h1, h2]
theorem j_islands (a : Int32) (hJ : JJ μ ν) : ∃ (r : Int32) (μ' ν' : Mem), f_LR_islands μ a = some (r, μ') ∧ f_MO_islands ν a = some (r, ν') ∧ JJ μ' ν' := by
  unfold f_LR_islands f_MO_islands
  rcases hJ.2 with ⟨q1, q2⟩ | ⟨q1, q2, hL⟩
  · rw [q1, q2, if_pos rfl, if_pos rfl]
    exact ⟨_, μ, ν, rfl, rfl, hJ⟩
  obtain ⟨w, n, m, ld, ht, od, dn, we, σ, th, wa, ⟨hz, hh, hm, R, B, O, M, D, V, V2⟩, T, LC, LM, W, h6, h7⟩ := id hL
  have hn := hz.2.2.1
  rw [q1, q2, if_neg n10, if_neg n10]
  rcases two_sea a with ⟨c1, c2⟩ | ⟨c1, c2⟩
  · rw [c1, c2, if_pos rfl, if_pos rfl]
    exact ⟨_, μ, ν, rfl, rfl, hJ⟩
  rw [c1, c2, if_neg n10, if_neg n10]
  obtain ⟨s, s1, s2⟩ := RE_landLeft hz O hm a
  have hA : ∀ f, bit s f = true → ld f = true := fun f hf => ((s2 f).mp hf).1
  obtain ⟨b0, i1, i2, i3, i4⟩ := MO_isl0 (A := bit s) hz M a (fun f => by
    rw [s2 f]
    constructor
    · rintro ⟨p1, p2⟩
      rw [(V f p1).2.2.2] at p2
      exact ⟨p1, Int32.not_lt.mp p2⟩
    · rintro ⟨p1, p2⟩
      refine ⟨p1, ?_⟩
      rw [(V f p1).2.2.2]
      exact Int32.not_lt.mpr p2)
  obtain ⟨lab, b, l1, l2, l3, l4, l5⟩ := MO_isl_all hz M hA (n * 64) FU (fun f => f) b0 (fb_sm_bound (fun k hk => by omega)) (by unfold FU; omega) i2 ⟨i3, i4⟩
  have hcon : ∀ f g, bit s f = true → Con w n ld (bit s) f g → lab g = lab f := by
    intro f g hf hc
    refine hc (fun x => lab x = lab f) rfl (fun x sx hx k hk y hy hAy => ?_)
    have p1 := l3 x k y hk hx hy hAy
    obtain ⟨k', k1, k2⟩ := nbr_sym hz (hA x hx) hk hy
    have p2 := l3 y k' x k1 hAy k2 hx
    omega
  have hlb : ∀ f, f < n → (decide (b.1 85 f = nI f) = true ↔ (bit s f = true ∧ ∀ g, g < f → bit s g = true → ¬ Con w n ld (bit s) g f)) := by
    intro f hf
    rw [decide_eq_true_iff, l2.1 f hf]
    constructor
    · intro h
      by_cases c : bit s f = true
      · rw [if_pos c] at h
        have lf := (l2.2 f c).1
        have e := nI_inj (by omega) (by omega) h
        refine ⟨c, fun g hg hAg hc => ?_⟩
        have := hcon g f hAg hc
        have := (l2.2 g hAg).1
        omega
      · rw [if_neg c] at h
        exact absurd h.symm (nI_n3 (by omega))
    · rintro ⟨c, h⟩
      rw [if_pos c]
      obtain ⟨p1, p2, p3⟩ := l2.2 f c
      congr 1
      refine Classical.byContradiction (fun q => h (lab f) (by omega) p2 p3)
  obtain ⟨μ', p1, p2, p3⟩ := RE_pieces hz R B hA s (fun _ => rfl) hlb
  rw [s1, i1]
  simp only [Option.bind_some]
  rw [p1, l1]
  simp only [Option.bind_some]
  rw [MO_islC hn (by rw [l4 63 (by decide)]; exact M.2.1)]
  simp only [Option.bind_some]
  refine ⟨_, μ', b, rfl, rfl, fun r hr => ?_, Or.inr ⟨by rw [p2 0 (by decide)]; exact q1, by rw [l4 63 (by decide)]; exact q2, hL.of (fun q _ hq => p2 q hq) p3 (l4 63 (by decide)) (fun q _ _ => l4 q (by omega)) l5⟩⟩
  rw [p2 (2 + r) (by omega), p2 (10 + r) (by omega), l4 64 (by decide), l4 65 (by decide), l4 66 (by decide)]
  exact hJ.1 r hr
end ISLM
