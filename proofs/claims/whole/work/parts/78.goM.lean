/-! ===== a field goes under: the reference, all of it ===== -/
section GOM
variable {w n : Nat} {ld : Nat → Bool} {ht : Nat → Int32} {dn : Nat → Int32} {σ : qLS} {U T : Nat → Bool} {f : Nat} {b : Bool} {ν : Mem}
theorem qspls_skip {a : Nat} : ∀ d, (∀ l, a ≤ l → l < a + d → T l = false) → qspls T f σ (a + d) = qspls T f σ a := by
  intro d
  induction d with
  | zero => intro _; rfl
  | succ d ih =>
    intro h
    rw [← Nat.add_assoc, qspls_f (h (a + d) (by omega) (by omega))]
    exact ih (fun l h1 h2 => h l h1 (by omega))
theorem qjns_skip {a : Nat} : ∀ d, (∀ l, a ≤ l → l < a + d → T l = false) → qjns T f σ (a + d) = qjns T f σ a := by
  intro d
  induction d with
  | zero => intro _; rfl
  | succ d ih =>
    intro h
    rw [← Nat.add_assoc, qjns_f (h (a + d) (by omega) (by omega))]
    exact ih (fun l h1 h2 => h l h1 (by omega))
/-- how far the list has come -/
def qAt (T : Nat → Bool) (N m : Nat) (nr : Nat → Nat) (i K : Nat) : Prop := K ≤ N ∧ (∀ j, j < i → nr j < K) ∧ ∀ j, i ≤ j → j < m → K ≤ nr j
theorem qAt_gap {N m i K : Nat} {nr : Nat → Nat} (h1 : ∀ i j, i < j → j < m → nr i < nr j) (h2 : ∀ l, (∃ i, i < m ∧ nr i = l) ↔ T l = true) (h : qAt T N m nr i K) (hi : i < m) : ∀ l, K ≤ l → l < nr i → T l = false := by
  intro l l1 l2
  cases c : T l with
  | false => rfl
  | true =>
    obtain ⟨j, j1, j2⟩ := (h2 l).mpr c
    rcases Nat.lt_trichotomy j i with q | q | q
    · have := h.2.1 j q; omega
    · subst q; omega
    · have := h1 i j q j1; omega
theorem qAt_end {N m K : Nat} {nr : Nat → Nat} (h2 : ∀ l, (∃ i, i < m ∧ nr i = l) ↔ T l = true) (h : qAt T N m nr m K) : ∀ l, K ≤ l → T l = false := by
  intro l l1
  cases c : T l with
  | false => rfl
  | true =>
    obtain ⟨j, j1, j2⟩ := (h2 l).mpr c
    have := h.2.1 j j1; omega
theorem MO_spills (hz : Sz w n ld) (h5 : ν.1 63 5 = nI n) (hR : qRM n ν σ U) (hN : qN σ ≤ 35) (hI : qInv w n ld dn σ U) (hT : qTs w n ld σ f T) (hf : f < n) (hlf : ld f = true) {m : Nat} {nr : Nat → Nat} (hm : m ≤ 4) (hL : qNr (fun l => T l = true) ν m nr) : ∃ c, f_MO_goUnder_L12 (nI f) FU ν 0 = some c ∧ qRM n c (qspls T f σ (qN σ)) U ∧ qFt ν c := by
  have hn := hz.2.2.1
  obtain ⟨l1, l2, l3, l4⟩ := hL
  have hP := qspls_P (by omega) hI hT hf hlf
  obtain ⟨v, v1, v2, v3⟩ := lp_0 (fun i a k => f_MO_goUnder_L12 (nI f) i a (nI k)) (fun i a => ∃ K, qAt T (qN σ) m nr i K ∧ qRM n a (qspls T f σ K) U ∧ qFt ν a) (fun a => qRM n a (qspls T f σ (qN σ)) U ∧ qFt ν a) m ν (by omega)
    ⟨0, ⟨Nat.zero_le _, fun j hj => absurd hj (Nat.not_lt_zero j), fun j _ _ => Nat.zero_le _⟩, hR, qFt.rf⟩
    (fun i a g => by
      obtain ⟨K, g1, g2, g3⟩ := g
      refine ⟨a, ?_, ?_, g3⟩
      · show f_MO_goUnder_L12 (nI f) (i + 1) a (nI m) = _
        rw [f_MO_goUnder_L12.eq_2, g3.2.1 26 (by decide), l1, if_pos (Int32.le_refl _)]
      · have := qspls_skip (f := f) (σ := σ) (T := T) (a := K) (qN σ - K) (fun l h1 _ => qAt_end l4 g1 l h1)
        rw [show K + (qN σ - K) = qN σ by have := g1.1; omega] at this
        rw [this]; exact g2)
    (fun i a k hk g => by
      obtain ⟨K, g1, g2, g3⟩ := g
      show ∃ a', _ ∧ f_MO_goUnder_L12 (nI f) (i + 1) a (nI k) = f_MO_goUnder_L12 (nI f) i a' (nI (k + 1))
      have tk : T (nr k) = true := (l4 _).mp ⟨k, hk, rfl⟩
      obtain ⟨t1, t2, -⟩ := (hT _).mp tk
      have hKk : K ≤ nr k := g1.2.2 k (Nat.le_refl _) hk
      have sk := qspls_skip (f := f) (σ := σ) (T := T) (a := K) (nr k - K) (fun l h1 h2 => qAt_gap l3 l4 g1 hk l h1 (by omega))
      rw [show K + (nr k - K) = nr k by omega] at sk
      rw [← sk] at g2
      obtain ⟨p1, p2, p3, p4, p5, p6, p7, p8⟩ := hP (nr k) (by omega)
      obtain ⟨c, c1, c2, c3⟩ := MO_spill1 (f := f) (by rw [g3.2.1 5 (by decide)]; exact h5) hn g2 p1.2.1 (by omega) (show nr k < qN (qspls T f σ (nr k)) by omega) (by rw [p7 _ (Nat.le_refl _)]; exact t2)
      rw [f_MO_goUnder_L12.eq_2, g3.2.1 26 (by decide), l1, if_neg (nI_ge hk (by omega)), nI_1]
      simp only [G_n (show k < 4 by omega) (show 4 < 2147483648 by decide), sI_ne (show 83 ≠ 74 by decide), sI_ne (show 83 ≠ 75 by decide)]
      rw [cl (show k < 2147483648 by omega), g3.2.2.1, l2 k hk]
      simp only [G_n (show nr k < 64 by omega) (show 64 < 2147483648 by decide)]
      rw [cl (show nr k < 2147483648 by omega), c1]
      refine ⟨c, ⟨nr k + 1, ⟨by omega, fun j hj => ?_, fun j h1 h2 => ?_⟩, ?_, g3.tr c3⟩, rfl⟩
      · by_cases e : j = k
        · subst e; omega
        · have := l3 j k (by omega) hk; omega
      · have := l3 k j (by omega) h2; omega
      · rw [qspls_t tk]; exact c2)
  exact ⟨v, v1, v2, v3⟩
theorem MO_joinsL (hz : Sz w n ld) (h5 : ν.1 63 5 = nI n) (hR : qRM n ν σ U) (hN : qN σ ≤ 35) (hT : qTs w n ld σ f T) (hP : ∀ k, k ≤ qN σ → qPj w n ld dn U T f σ (qjns T f σ k) k) {m : Nat} {nr : Nat → Nat} (hm : m ≤ 4) (hm0 : 0 < m) (hL : qNr (fun l => T l = true) ν m nr) : ∃ t c, f_MO_goUnder_L103 (nI f) FU ν (nI (nr 0)) 1 = some (nI t, c) ∧ (qjns T f σ (qN σ)).1 = some t ∧ qRM n c (qjns T f σ (qN σ)).2 U ∧ qFt ν c := by
  have hn := hz.2.2.1
  obtain ⟨l1, l2, l3, l4⟩ := hL
  have t0 : T (nr 0) = true := (l4 _).mp ⟨0, hm0, rfl⟩
  obtain ⟨t01, -, -⟩ := (hT _).mp t0
  have at0 : qAt T (qN σ) m nr 0 0 := ⟨Nat.zero_le _, fun j hj => absurd hj (Nat.not_lt_zero j), fun j _ _ => Nat.zero_le _⟩
  have s0 : qjns T f σ (nr 0) = (none, σ) := by
    have := qjns_skip (f := f) (σ := σ) (T := T) (a := 0) (nr 0) (fun l h1 h2 => qAt_gap l3 l4 at0 hm0 l h1 (by omega))
    rw [Nat.zero_add] at this
    exact this
  have s1 : qjns T f σ (nr 0 + 1) = (some (nr 0), σ) := by
    rw [qjns_n t0 (by rw [s0]), s0]
  have hlp := lp_up (fun i (a : Int32 × Mem) k => f_MO_goUnder_L103 (nI f) i a.2 a.1 (nI k)) (fun i a => ∃ K t, qAt T (qN σ) m nr i K ∧ (qjns T f σ K).1 = some t ∧ a.1 = nI t ∧ qRM n a.2 (qjns T f σ K).2 U ∧ qFt ν a.2) (fun a => ∃ t, (qjns T f σ (qN σ)).1 = some t ∧ a.1 = nI t ∧ qRM n a.2 (qjns T f σ (qN σ)).2 U ∧ qFt ν a.2) m
    (fun i a g => by
      obtain ⟨K, t, g1, g2, g3, g4, g5⟩ := g
      have sk := qjns_skip (f := f) (σ := σ) (T := T) (a := K) (qN σ - K) (fun l h1 _ => qAt_end l4 g1 l h1)
      rw [show K + (qN σ - K) = qN σ by have := g1.1; omega] at sk
      refine ⟨a, ?_, t, by rw [sk]; exact g2, g3, by rw [sk]; exact g4, g5⟩
      show f_MO_goUnder_L103 (nI f) (i + 1) a.2 a.1 (nI m) = _
      rw [f_MO_goUnder_L103.eq_2, g5.2.1 26 (by decide), l1, if_pos (Int32.le_refl _)])
    (fun i a k hk g => by
      obtain ⟨y, a⟩ := a
      obtain ⟨K, t, g1, g2, g3, g4, g5⟩ := g
      dsimp only at g3 g4 g5
      subst g3
      show ∃ a' : Int32 × Mem, _ ∧ f_MO_goUnder_L103 (nI f) (i + 1) a (nI t) (nI k) = f_MO_goUnder_L103 (nI f) i a'.2 a'.1 (nI (k + 1))
      have tk : T (nr k) = true := (l4 _).mp ⟨k, hk, rfl⟩
      obtain ⟨t1, t2, -⟩ := (hT _).mp tk
      have hKk : K ≤ nr k := g1.2.2 k (Nat.le_refl _) hk
      have sk := qjns_skip (f := f) (σ := σ) (T := T) (a := K) (nr k - K) (fun l h1 h2 => qAt_gap l3 l4 g1 hk l h1 (by omega))
      rw [show K + (nr k - K) = nr k by omega] at sk
      rw [← sk] at g4 g2
      obtain ⟨p1, p2, p3, p4, p5, p6, p7, p8⟩ := hP (nr k) (by omega)
      obtain ⟨q1, q2, q3, -⟩ := p8 t g2
      obtain ⟨c, c1, c2, c3⟩ := MO_twice (f := f) (by rw [g5.2.1 5 (by decide)]; exact h5) hn g4 (by omega) q1 (show nr k < qN (qjns T f σ (nr k)).2 by omega) (by omega) q2 (by rw [p6 _ (Nat.le_refl _) t1]; exact t2)
      rw [f_MO_goUnder_L103.eq_2, g5.2.1 26 (by decide), l1, if_neg (nI_ge hk (by omega)), nI_1, G_n (by omega) (by decide), cl (by omega), g5.2.2.1, l2 k hk, c1]
      refine ⟨(nI (qN (qjns T f σ (nr k)).2), c), ⟨nr k + 1, qN (qjns T f σ (nr k)).2, ⟨by omega, fun j hj => ?_, fun j h1 h2 => ?_⟩, ?_, rfl, ?_, g5.tr c3⟩, rfl⟩
      · by_cases e : j = k
        · subst e; omega
        · have := l3 j k (by omega) hk; omega
      · have := l3 k j (by omega) h2; omega
      · rw [qjns_s tk g2]
      · rw [qjns_s tk g2]; exact c2)
    (m - 1) 1 FU (nI (nr 0), ν) (by omega) (by unfold FU; omega)
    ⟨nr 0 + 1, nr 0, ⟨by omega, fun j hj => by rw [show j = 0 by omega]; omega, fun j h1 h2 => by have := l3 0 j (by omega) h2; omega⟩, by rw [s1], rfl, by rw [s1]; exact hR, qFt.rf⟩
  obtain ⟨v, v1, t, v2, v3, v4, v5⟩ := hlp
  obtain ⟨y, c⟩ := v
  dsimp only at v3 v4 v5
  subst v3
  exact ⟨t, c, v1, v2, v4, v5⟩
/-- the field itself comes to a lake -/
theorem MO_joins_add {τ : qLS} {a : Mem} {t : Nat} (hR : qRM n a τ U) (hN : qN τ ≤ 35) (hL : qIA τ U ld) (hU : U f = false) (hf : f < 64) (ht' : t < qN τ) (wt : qW τ t = -3) : ∃ c, f_MO_joins a (nI t) (nI f) = some c ∧ qRM n (sI c 82 f 1) (qadf τ f t) (quf U f) ∧ qFm a (sI c 82 f 1) := by
  unfold f_MO_joins
  simp only [G_n (show t < 64 by omega) (show 64 < 2147483648 by decide), G_n hf (show 64 < 2147483648 by decide)]
  rw [cl (show t < 2147483648 by omega), cl (show f < 2147483648 by omega)]
  have sh : ((1 : Int64) <<< ((nI f).toInt64 &&& 63)) = f_LR_only (nI f) := rfl
  rw [sh]
  refine ⟨_, rfl, ⟨?_, ?_, ?_, ?_⟩, ?_⟩
  · rw [sI_ne (by decide), sI_ne (by decide), sJ_1]; exact hR.1
  · intro l hl
    obtain ⟨r1, r2, r3, r4, r5, r6, r7, r8⟩ := hR.2.1 l hl
    unfold qLm
    rw [sI_2, sI_2, sI_ne (show 74 ≠ 82 by decide), sI_ne (show 74 ≠ 81 by decide), sI_ne (show 75 ≠ 82 by decide), sI_ne (show 75 ≠ 81 by decide), sI_ne (show 76 ≠ 82 by decide), sI_ne (show 76 ≠ 81 by decide), sI_ne (show 77 ≠ 82 by decide), sI_ne (show 77 ≠ 81 by decide), sI_ne (show 72 ≠ 82 by decide), sI_ne (show 72 ≠ 81 by decide), sI_ne (show 78 ≠ 82 by decide), sI_ne (show 78 ≠ 81 by decide), sI_ne (show 79 ≠ 82 by decide), sI_ne (show 79 ≠ 81 by decide), sJ_1]
    refine ⟨fun g => ?_, r2, r3, r4, r5, r6, r7, r8⟩
    by_cases e : l = t
    · subst e
      rw [sJ_at, bit_or, bit_only hf, r1 g]
      exact (congrFun (va_up_self (qF τ) l (fun g => qF τ l g || decide (g = f))) g).symm
    · rw [sJ_off e, qf_F e]; exact r1 g
  · intro g hg
    by_cases e : g = f
    · subst e
      rw [sI_at, if_pos quf_self]
    · rw [sI_off e, sI_ne (by decide), sJ_1, hR.2.2.1 g hg]
      simp [quf, e]
  · intro g hg hu
    rw [sI_ne (by decide)]
    by_cases e : g = f
    · subst e
      rw [sI_at]
      refine ⟨fun hs => ?_, fun l hl hw hF => ?_⟩
      · have := hL.2.1 g hs
        rw [hU] at this; cases this
      · by_cases e : l = t
        · rw [e]
        · rw [qf_F e] at hF
          have := hL.1 l hl g hF
          rw [hU] at this; cases this
    · rw [sI_off e, sJ_1]
      have hu' : U g = true := (quf_cases hu).resolve_right e
      obtain ⟨o1, o2⟩ := hR.2.2.2 g hg hu'
      refine ⟨o1, fun l hl hw hF => ?_⟩
      refine o2 l hl hw ?_
      by_cases e2 : l = t
      · subst e2; exact (qf_Ft.mp hF).resolve_right e
      · rw [qf_F e2] at hF; exact hF
  · refine ⟨fun q h1 h2 => ?_, fun j hj => ?_, fun q hq => ?_⟩
    · rw [sI_ne (by omega), sI_ne (by omega), sJ_1]
    · rw [sI_ne (by omega), sI_ne (by omega), sJ_1]
    · rw [sI_2, sI_2, sJ_ne hq]
theorem MO_goUnder (hz : Sz w n ld) (h : ReM w n ld ht ν) (hR : qRM n ν σ U) (hdn : ∀ f, ld f = true → Dn ht (nbr w n ld f) f (dn f)) (hN : qN σ ≤ 35) (hI : qInv w n ld dn σ U) (hU : ∀ g, U g = true ↔ ld g = true ∧ lw ht g f = true) (hlf : ld f = true) (hT : qTs w n ld σ f T) (hb : qbs w n ld σ f b) : ∃ a, f_MO_goUnder ν (nI f) = some a ∧ qRM n a (qgo b T σ f) (quf U f) ∧ qFm ν a := by
  have hf : f < n := hz.2.2.2.2 f hlf
  have hn := hz.2.2.1
  have hUf : U f = false := by
    cases c : U f with
    | false => rfl
    | true => exact absurd ((hU f).mp c).2 lw_irr
  obtain ⟨a, m, nr, a1, a2, a3, a4⟩ := MO_lookBeside hz h hR hN hI hf hT hb
  have aR : qRM n a σ U := a4.RM hR
  have a5 : a.1 63 5 = nI n := by rw [a4.2.1 5 (by decide)]; exact h.2.1
  have hG := qgo_P hz hdn (by omega) hI hU hT hb hlf
  have hP := qjns_P (f := f) hz hdn (by omega) hI hT hf hlf
  unfold f_MO_goUnder
  rw [a1]
  simp only [Option.bind_some, G_n (show f < 64 by omega) (show 64 < 2147483648 by decide)]
  rw [cl (show f < 2147483648 by omega), show ((1 : Int32) &&& 1) = 1 from rfl]
  cases cb : b with
  | true =>
    obtain ⟨c, c1, c2, c3⟩ := MO_spills hz a5 aR hN hI hT hf hlf a2 a3
    obtain ⟨p1, p2, p3, p4, p5, p6, p7, p8⟩ := qspls_P (by omega) hI hT hf hlf (qN σ) (Nat.le_refl _)
    simp only [if_true, if_neg (show ¬ (1 : Int32) = 0 by decide)]
    rw [c1]
    simp only [Option.bind_some]
    refine ⟨_, rfl, ⟨?_, ?_, ?_, ?_⟩, ?_⟩
    · rw [sI_ne (by decide), sI_ne (by decide)]
      unfold qgo; rw [if_pos rfl]; exact c2.1
    · intro l hl
      unfold qgo at hl ⊢; rw [if_pos rfl] at hl ⊢
      have : qLm c (qsel (qspls T f σ (qN σ)) f) l := c2.2.1 l hl
      exact this.cong (fun q h1 h2 => by rw [sI_ne h2, sI_ne h1]) rfl
    · intro g hg
      by_cases e : g = f
      · subst e
        rw [sI_at, if_pos quf_self]
      · rw [sI_off e, sI_ne (by decide), c2.2.2.1 g hg]
        simp [quf, e]
    · intro g hg hu
      unfold qgo; rw [if_pos rfl, sI_ne (by decide)]
      by_cases e : g = f
      · subst e
        rw [sI_at]
        refine ⟨fun _ => rfl, fun l hl hw hF => ?_⟩
        have := p1.1.1 l hl g hF
        rw [hUf] at this; cases this
      · rw [sI_off e]
        have hu' : U g = true := (quf_cases hu).resolve_right e
        obtain ⟨o1, o2⟩ := c2.2.2.2 g hg hu'
        refine ⟨fun hs => o1 ?_, o2⟩
        have hs' : (qS (qspls T f σ (qN σ)) g || decide (g = f)) = true := hs
        simpa [e] using hs'
    · refine (a4.Fm.tr c3.Fm).tr ⟨fun q h1 h2 => ?_, fun j hj => ?_, fun q hq => rfl⟩
      · rw [sI_ne (by omega), sI_ne (by omega)]
      · rw [sI_ne (by omega), sI_ne (by omega)]
  | false =>
    rw [cb] at hG
    simp only [Bool.false_eq_true, if_false, if_true]
    rw [a3.1]
    by_cases m0 : m = 0
    · subst m0
      have noT : ∀ l, T l = false := by
        intro l
        cases c : T l with
        | false => rfl
        | true =>
          obtain ⟨i, hi, -⟩ := (a3.2.2.2 l).mpr c
          exact absurd hi (Nat.not_lt_zero i)
      have e : (qjns T f σ (qN σ)).1 = none := by
        have := qjns_skip (f := f) (σ := σ) (T := T) (a := 0) (qN σ) (fun l _ _ => noT l)
        rw [Nat.zero_add] at this
        rw [this]; rfl
      unfold qgo at hG ⊢
      rw [if_neg (by decide : ¬ (false = true)), e] at hG ⊢
      dsimp only at hG ⊢
      have hN35 : qN σ < 35 := by have := hG.2; rw [qg_N] at this; omega
      rw [if_pos nI_0, MO_newLake aR.1 (by omega)]
      simp only [Option.bind_some]
      unfold f_MO_joins
      simp only [G_n (show qN σ < 64 by omega) (show 64 < 2147483648 by decide), G_n (show f < 64 by omega) (show 64 < 2147483648 by decide), Option.bind_some]
      rw [cl (show qN σ < 2147483648 by omega), cl (show f < 2147483648 by omega)]
      have sh : ((1 : Int64) <<< ((nI f).toInt64 &&& 63)) = f_LR_only (nI f) := rfl
      rw [sh]
      obtain ⟨x1, x2, x3⟩ := qnl_81 (ν := a) (N := qN σ)
      refine ⟨_, rfl, ⟨?_, ?_, ?_, ?_⟩, ?_⟩
      · rw [sI_ne (by decide), sI_ne (by decide), sJ_1]; exact x3
      · intro l hl
        unfold qLm
        rw [sI_2, sI_2, sI_ne (show 74 ≠ 82 by decide), sI_ne (show 74 ≠ 81 by decide), sI_ne (show 75 ≠ 82 by decide), sI_ne (show 75 ≠ 81 by decide), sI_ne (show 76 ≠ 82 by decide), sI_ne (show 76 ≠ 81 by decide), sI_ne (show 77 ≠ 82 by decide), sI_ne (show 77 ≠ 81 by decide), sI_ne (show 72 ≠ 82 by decide), sI_ne (show 72 ≠ 81 by decide), sI_ne (show 78 ≠ 82 by decide), sI_ne (show 78 ≠ 81 by decide), sI_ne (show 79 ≠ 82 by decide), sI_ne (show 79 ≠ 81 by decide), sJ_1]
        rcases qg_lt hl with q | q
        · obtain ⟨r1, r2, r3, r4, r5, r6, r7, r8⟩ := aR.2.1 l q
          have hne : l ≠ qN σ := by omega
          obtain ⟨n1, n2, n3, n4, n5, n6, n7, n8⟩ := qnl_get (ν := a) hne
          rw [sJ_off hne, n1, n2, n3, n4, n5, n6, n7, n8, qg_F q, qg_M q, qg_W q, qg_A q, qg_B q]
          exact ⟨r1, r2, r3, r4, r5, r6, r7, r8⟩
        · subst q
          obtain ⟨n1, n2, n3, n4, n5, n6, n7, n8⟩ := qnl_at (ν := a) (N := qN σ)
          rw [sJ_at, n1, n2, n3, n4, n5, n6, n7, n8, qg_MN, qg_WN, qg_AN, qg_BN]
          refine ⟨fun g => ?_, rfl, rfl, rfl, rfl, rfl, rfl, rfl⟩
          rw [bit_or, bit_0, bit_only (by omega), Bool.false_or]
          exact (congrFun (va_up_self (qF σ) (qN σ) (fun g => decide (g = f))) g).symm
      · intro g hg
        by_cases e : g = f
        · subst e
          rw [sI_at, if_pos quf_self]
        · rw [sI_off e, sI_ne (by decide), sJ_1, x2, aR.2.2.1 g hg]
          simp [quf, e]
      · intro g hg hu
        rw [sI_ne (by decide)]
        by_cases e : g = f
        · subst e
          rw [sI_at]
          refine ⟨fun hs => ?_, fun l hl hw hF => ?_⟩
          · have := hI.1.2.1 g hs
            rw [hUf] at this; cases this
          · rcases qg_lt hl with q | q
            · rw [qg_F q] at hF
              have := hI.1.1 l q g hF
              rw [hUf] at this; cases this
            · rw [q]
        · rw [sI_off e, sJ_1, x1]
          have hu' : U g = true := (quf_cases hu).resolve_right e
          obtain ⟨o1, o2⟩ := aR.2.2.2 g hg hu'
          refine ⟨o1, fun l hl hw hF => ?_⟩
          rcases qg_lt hl with q | q
          · rw [qg_F q] at hF; rw [qg_W q] at hw
            exact o2 l q hw hF
          · subst q
            exact absurd (qg_FN.mp hF) e
      · refine (a4.Fm.tr (qnl_F (N := qN σ)).Fm).tr ⟨fun q h1 h2 => ?_, fun j hj => ?_, fun q hq => ?_⟩
        · rw [sI_ne (by omega), sI_ne (by omega), sJ_1]
        · rw [sI_ne (by omega), sI_ne (by omega), sJ_1]
        · rw [sI_2, sI_2, sJ_ne hq]
    · obtain ⟨t, c, c1, c2, c3, c4⟩ := MO_joinsL hz a5 aR hN hT hP a2 (by omega) a3
      obtain ⟨p1, p2, p3, p4, p5, p6, p7, p8⟩ := hP (qN σ) (Nat.le_refl _)
      obtain ⟨t1, t2, -⟩ := p8 t c2
      obtain ⟨d, d1, d2, d3⟩ := MO_joins_add c3 p2 p1.1 hUf (show f < 64 by omega) t1 t2
      rw [if_neg (nI_ne0 (by omega) (by omega)), show G (0 : Int32) 4 = G (nI 0) 4 from rfl, G_n (by decide) (by decide), show (0 : Int32).toNatClampNeg = 0 from rfl, a3.2.1 0 (by omega), c1]
      simp only [Option.bind_some]
      rw [d1]
      simp only [Option.bind_some]
      refine ⟨_, rfl, ?_, (a4.Fm.tr c4.Fm).tr d3⟩
      unfold qgo
      rw [if_neg (by decide : ¬ (false = true)), c2]
      exact d2
end GOM
