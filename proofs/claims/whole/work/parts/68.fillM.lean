/-! ===== the reference's fills ===== -/
section FILLM
variable {w n : Nat} {ld : Nat → Bool} {ht : Nat → Int32} {ν : Mem}
abbrev fiM (ν : Mem) : Nat → Int := fun f => (ν.1 71 f).toInt
/-- the least that a field of land is told by its sides -/
theorem MO_least (hz : Sz w n ld) (h : ReM w n ld ht ν) (y1 : Int32) {f : Nat} (hf : f < n) (hl : ld f = true) (x0 : Int32) : ∃ x, f_MO_layFill_L52 ν y1 (nI f) FU x0 0 = some x ∧ ∀ v : Int, (x.toInt ≤ v ↔ (x0.toInt ≤ v ∨ Fle ht (nbr w n ld f) (fiM ν) f v)) := by
  have hn := hz.2.2.1
  obtain ⟨x, h1, h2⟩ := lp_0 (fun m a k => f_MO_layFill_L52 ν y1 (nI f) m a (nI k)) (fun K a => ∀ v : Int, (a.toInt ≤ v ↔ (x0.toInt ≤ v ∨ ((ht f).toInt ≤ v ∧ ∃ k, k < K ∧ (nbr w n ld f k = none ∨ ∃ g, nbr w n ld f k = some g ∧ fiM ν g ≤ v))))) (fun a => ∀ v : Int, (a.toInt ≤ v ↔ (x0.toInt ≤ v ∨ Fle ht (nbr w n ld f) (fiM ν) f v))) 4 x0 (by decide)
    (fun v => ⟨fun q => Or.inl q, fun q => q.elim id (fun ⟨_, k, hk, _⟩ => absurd hk (Nat.not_lt_zero k))⟩)
    (fun m a g => ⟨a, by show f_MO_layFill_L52 ν y1 (nI f) (m + 1) a (nI 4) = _; rw [f_MO_layFill_L52.eq_2, if_pos (by decide)], g⟩)
    (fun m a k hk g => by
      show ∃ a', _ ∧ f_MO_layFill_L52 ν y1 (nI f) (m + 1) a (nI k) = f_MO_layFill_L52 ν y1 (nI f) m a' (nI (k + 1))
      obtain ⟨s, s1, s2⟩ := MO_side hz h hf hk
      rw [f_MO_layFill_L52.eq_2, if_neg (nge 4 (b := 4) rfl hk (by decide))]
      simp only [G_n (show f < 64 by omega) (show 64 < 2147483648 by decide)]
      rw [cl (by omega), h.2.2.1 f hf, if_pos hl, if_pos rfl, s1, h.2.2.2 f hf, nI_1]
      simp only [Option.bind_some]
      have fin : ∀ y : Int32, (∀ v : Int, (y.toInt ≤ v ↔ ((ht f).toInt ≤ v ∧ (nbr w n ld f k = none ∨ ∃ g, nbr w n ld f k = some g ∧ fiM ν g ≤ v)))) → ∃ a', (∀ v : Int, (a'.toInt ≤ v ↔ (x0.toInt ≤ v ∨ ((ht f).toInt ≤ v ∧ ∃ j, j < k + 1 ∧ (nbr w n ld f j = none ∨ ∃ g, nbr w n ld f j = some g ∧ fiM ν g ≤ v))))) ∧ ((if a ≤ y then some a else some y).bind fun v13 => f_MO_layFill_L52 ν y1 (nI f) m v13 (nI (k + 1))) = f_MO_layFill_L52 ν y1 (nI f) m a' (nI (k + 1)) := by
        intro y hy
        have gen : ∀ z : Int32, (∀ v : Int, z.toInt ≤ v ↔ (a.toInt ≤ v ∨ y.toInt ≤ v)) → ∀ v : Int, (z.toInt ≤ v ↔ (x0.toInt ≤ v ∨ ((ht f).toInt ≤ v ∧ ∃ j, j < k + 1 ∧ (nbr w n ld f j = none ∨ ∃ g, nbr w n ld f j = some g ∧ fiM ν g ≤ v)))) := by
          intro z hzz v
          rw [hzz v, hy v, g v]
          constructor
          · rintro ((q | ⟨q, j, j1, j2⟩) | ⟨q1, q2⟩)
            · exact Or.inl q
            · exact Or.inr ⟨q, j, by omega, j2⟩
            · exact Or.inr ⟨q1, k, by omega, q2⟩
          · rintro (q | ⟨q, j, j1, j2⟩)
            · exact Or.inl (Or.inl q)
            · by_cases e : j = k
              · subst e; exact Or.inr ⟨q, j2⟩
              · exact Or.inl (Or.inr ⟨q, j, by omega, j2⟩)
        by_cases c : a ≤ y
        · rw [if_pos c]
          rw [fa_le] at c
          exact ⟨a, gen a (fun v => by omega), rfl⟩
        · rw [if_neg c]
          rw [fa_le] at c
          exact ⟨y, gen y (fun v => by omega), rfl⟩
      rcases s2 with ⟨-, e2, e1⟩ | ⟨g, -, -, -, e2, e1⟩ | ⟨g, b1, b2, b3, b4, b5⟩
      · rw [e1]
        simp only [Option.bind_some]
        rw [if_neg (by decide)]
        simp only [Option.bind_some]
        exact fin (ht f) (fun v => by rw [e2]; exact ⟨fun q => ⟨q, Or.inl rfl⟩, fun q => q.1⟩)
      · rw [e1]
        simp only [Option.bind_some]
        rw [if_neg (by decide)]
        simp only [Option.bind_some]
        exact fin (ht f) (fun v => by rw [e2]; exact ⟨fun q => ⟨q, Or.inl rfl⟩, fun q => q.1⟩)
      · rw [b5]
        simp only [Option.bind_some]
        rw [if_pos trivial, b2]
        simp only [G_n (show g < 64 by omega) (show 64 < 2147483648 by decide)]
        rw [cl (by omega)]
        by_cases c : ν.1 71 g ≤ ht f
        · rw [if_pos c]
          simp only [Option.bind_some]
          rw [fa_le] at c
          refine fin (ht f) (fun v => ?_)
          rw [b4]
          exact ⟨fun q => ⟨q, Or.inr ⟨g, rfl, by show (ν.1 71 g).toInt ≤ v; omega⟩⟩, fun q => q.1⟩
        · rw [if_neg c]
          simp only [Option.bind_some]
          rw [fa_le] at c
          refine fin (ν.1 71 g) (fun v => ?_)
          rw [b4]
          constructor
          · intro q
            exact ⟨by omega, Or.inr ⟨g, rfl, q⟩⟩
          · rintro ⟨q1, q2 | ⟨x, q2, q3⟩⟩
            · cases q2
            · cases q2; exact q3)
  exact ⟨x, h1, h2⟩
/-- a pass of the reference -/
theorem MO_pass (hz : Sz w n ld) (h : ReM w n ld ht ν) (hh : Hts n ld ht) : ∃ (x : Int32) (a : Mem) (mv : Bool), f_MO_layFill_L34 FU ν 0 0 = some (x, a) ∧ x = (if mv then 1 else 0) ∧ Pas w n ld ht (fiM ν) (fiM a) mv ∧ ((∀ v : Int, v ≤ 1000000 → Clo w n ld ht (fiM ν) v) → mv = false) ∧ (∀ q, q ≠ 71 → a.1 q = ν.1 q) ∧ a.2 = ν.2 := by
  have hn := hz.2.2.1
  obtain ⟨v, h1, mv, h2, h3, h4, h5, h6⟩ := lp_0 (fun i (a : Int32 × Mem) k => f_MO_layFill_L34 i a.2 a.1 (nI k)) (fun k a => ∃ mv : Bool, a.1 = (if mv then 1 else 0) ∧ Mid w n ld ht (fiM ν) (fiM a.2) (fun f => f < k) mv ∧ ((∀ v : Int, v ≤ 1000000 → Clo w n ld ht (fiM ν) v) → mv = false) ∧ (∀ q, q ≠ 71 → a.2.1 q = ν.1 q) ∧ a.2.2 = ν.2) (fun a => ∃ mv : Bool, a.1 = (if mv then 1 else 0) ∧ Pas w n ld ht (fiM ν) (fiM a.2) mv ∧ ((∀ v : Int, v ≤ 1000000 → Clo w n ld ht (fiM ν) v) → mv = false) ∧ (∀ q, q ≠ 71 → a.2.1 q = ν.1 q) ∧ a.2.2 = ν.2) n (0, ν) (by omega)
    ⟨false, rfl, ⟨fun _ _ => Int.le_refl _, fun f _ hf => absurd hf (Nat.not_lt_zero f), fun _ _ _ _ q => q, fun _ _ _ => rfl⟩, fun _ => rfl, fun _ _ => rfl, rfl⟩
    (fun i a g => by
      obtain ⟨mv, g1, g2, g5, g3, g4⟩ := g
      refine ⟨(a.1, a.2), ?_, mv, g1, Mid_end g2 (fun f hf => hz.2.2.2.2 f hf), g5, g3, g4⟩
      show f_MO_layFill_L34 (i + 1) a.2 a.1 (nI n) = _
      rw [f_MO_layFill_L34.eq_2, g3 63 (by decide), h.2.1, if_pos (Int32.le_refl _)])
    (fun i a k hk g => by
      obtain ⟨y, b⟩ := a
      obtain ⟨mv, g1, g2, g5, g3, g4⟩ := g
      dsimp only at g1 g2 g3 g4 g5
      have rb : ReM w n ld ht b := h.of (by rw [g3 63 (by decide)]) (by rw [g3 63 (by decide)]) (g3 67 (by decide)) (g3 68 (by decide))
      show ∃ a' : Int32 × Mem, _ ∧ f_MO_layFill_L34 (i + 1) b y (nI k) = f_MO_layFill_L34 i a'.2 a'.1 (nI (k + 1))
      rw [f_MO_layFill_L34.eq_2, rb.2.1, if_neg (nI_ge hk (by omega))]
      simp only [G_n (show k < 64 by omega) (show 64 < 2147483648 by decide)]
      rw [cl (by omega), nI_1]
      have hset : ∀ θ' : Nat → Int, ∀ mv', Mid w n ld ht (fiM ν) θ' (fun g => g < k ∨ g = k) mv' → Mid w n ld ht (fiM ν) θ' (fun g => g < k + 1) mv' := by
        intro θ' mv' hM
        exact ⟨hM.1, fun f hf hT => hM.2.1 f hf (by omega), hM.2.2.1, hM.2.2.2⟩
      have flag : ∀ z : Int32, ∀ c : Bool, (c = true ↔ ¬ b.1 71 k ≤ z) → (if y = 0 then (if b.1 71 k ≤ z then some (0 : Int32) else some 1) else some 1) = some (if (mv || c) then 1 else 0) := by
        intro z c hc
        rw [g1]
        by_cases q : b.1 71 k ≤ z
        · have : c = false := by cases c <;> simp_all
          subst this
          rw [if_pos q]
          cases mv <;> rfl
        · have : c = true := hc.mpr q
          subst this
          rw [if_neg q]
          cases mv <;> rfl
      by_cases hl : ld k = true
      · obtain ⟨x, q1, q2⟩ := MO_least hz rb y hk hl (b.1 71 k)
        rw [q1]
        simp only [Option.bind_some]
        -- what the sides alone tell
        have hmin : ∃ B : Int, (∀ v : Int, v ≤ 1000000 → (B ≤ v ↔ Fle ht (nbr w n ld k) (fiM b) k v)) ∧ x.toInt = if B < fiM b k then B else fiM b k := by
          by_cases c : x.toInt < fiM b k
          · refine ⟨x.toInt, fun v hv => ?_, by rw [if_pos c]⟩
            constructor
            · intro q
              have hself := (q2 x.toInt).mp (Int.le_refl _)
              rcases hself with e | e
              · have : fiM b k ≤ x.toInt := e
                omega
              · obtain ⟨e1, j, j1, j2⟩ := e
                refine ⟨by omega, j, j1, ?_⟩
                rcases j2 with j2 | ⟨g, j2, j3⟩
                · exact Or.inl j2
                · exact Or.inr ⟨g, j2, by omega⟩
            · intro q
              exact (q2 v).mpr (Or.inr q)
          · have hx : x.toInt = fiM b k := by
              have : x.toInt ≤ fiM b k := (q2 (fiM b k)).mpr (Or.inl (Int.le_refl _))
              omega
            -- the least v with Fle, or none: take it from the sides by one of the bounds
            by_cases ex : ∃ v : Int, v ≤ 1000000 ∧ Fle ht (nbr w n ld k) (fiM b) k v
            · obtain ⟨v0, hv0, hF0⟩ := ex
              -- the values at which Fle may begin: the height or a neighbour's fill
              obtain ⟨e1, j, j1, j2⟩ := hF0
              have lowest : ∃ B : Int, Fle ht (nbr w n ld k) (fiM b) k B ∧ ∀ v : Int, Fle ht (nbr w n ld k) (fiM b) k v → B ≤ v := by
                have hlo : ∀ v : Int, Fle ht (nbr w n ld k) (fiM b) k v → (ht k).toInt ≤ v := fun v q => q.1
                have : ∀ d : Nat, ∀ v : Int, v - (ht k).toInt = d → Fle ht (nbr w n ld k) (fiM b) k v → ∃ B : Int, Fle ht (nbr w n ld k) (fiM b) k B ∧ ∀ v : Int, Fle ht (nbr w n ld k) (fiM b) k v → B ≤ v := by
                  intro d
                  induction d with
                  | zero =>
                    intro v hd hF
                    exact ⟨v, hF, fun u hu => by have := hlo u hu; omega⟩
                  | succ d ih =>
                    intro v hd hF
                    by_cases c2 : Fle ht (nbr w n ld k) (fiM b) k (v - 1)
                    · exact ih (v - 1) (by omega) c2
                    · refine ⟨v, hF, fun u hu => ?_⟩
                      by_cases c3 : v ≤ u
                      · exact c3
                      · exfalso
                        apply c2
                        obtain ⟨u1, i, i1, i2⟩ := hu
                        refine ⟨by omega, i, i1, ?_⟩
                        rcases i2 with i2 | ⟨g, i2, i3⟩
                        · exact Or.inl i2
                        · exact Or.inr ⟨g, i2, by omega⟩
                exact this (v0 - (ht k).toInt).toNat v0 (by omega) ⟨e1, j, j1, j2⟩
              obtain ⟨B, hB1, hB2⟩ := lowest
              refine ⟨B, fun v hv => ⟨fun q => ?_, fun q => hB2 v q⟩, ?_⟩
              · obtain ⟨u1, i, i1, i2⟩ := hB1
                refine ⟨by omega, i, i1, ?_⟩
                rcases i2 with i2 | ⟨g, i2, i3⟩
                · exact Or.inl i2
                · exact Or.inr ⟨g, i2, by omega⟩
              · have : x.toInt ≤ B := (q2 B).mpr (Or.inr hB1)
                rw [if_neg (by omega)]
                exact hx
            · have hB : ∃ B : Int, 1000000 < B ∧ fiM b k ≤ B := by
                by_cases c4 : 1000000 < fiM b k
                · exact ⟨fiM b k, c4, Int.le_refl _⟩
                · exact ⟨1000001, by omega, by omega⟩
              obtain ⟨B, hB1, hB2⟩ := hB
              refine ⟨B, fun v hv => ⟨fun q => absurd q (by omega), fun q => absurd ⟨v, hv, q⟩ ex⟩, ?_⟩
              rw [if_neg (by omega)]
              exact hx
        obtain ⟨B, hB1, hB2⟩ := hmin
        rw [flag x (decide (B < fiM b k)) (by
          rw [decide_eq_true_iff, fa_le]
          show B < fiM b k ↔ ¬ fiM b k ≤ x.toInt
          rw [hB2]
          by_cases c : B < fiM b k
          · rw [if_pos c]; omega
          · rw [if_neg c]; omega)]
        simp only [Option.bind_some]
        have := Mid_s g2 hl hB1 (fiM (sI b 71 k x)) (by
          show ((sI b 71 k x).1 71 k).toInt = _
          rw [sI_at]
          exact hB2) (fun g _ e => by
          show ((sI b 71 k x).1 71 g).toInt = _
          rw [sI_off e])
        refine ⟨(if (mv || decide (B < fiM b k)) then 1 else 0, sI b 71 k x), ⟨mv || decide (B < fiM b k), rfl, hset _ _ this, fun hcl => ?_, fun q hq => by rw [sI_ne hq]; exact g3 q hq, g4⟩, rfl⟩
        have hmv := g5 hcl
        subst hmv
        rw [Bool.false_or]
        apply decide_eq_false
        intro c
        have same := g2.2.2.2 rfl
        have hk1 : fiM b k = fiM ν k := same k hl
        have reach := all_reach hz hh (hcl 1000000 (by omega)) k hl
        have hBv : B ≤ 1000000 := by omega
        have hF := (hB1 B hBv).mp (Int.le_refl _)
        have := hcl B hBv k hl (Fle_mono (fun j g e q => by rw [← same g (nbr_g e).2]; exact q) hF)
        omega
      · have hstep : f_MO_layFill_L52 b y (nI k) FU (b.1 71 k) 0 = some (b.1 71 k) := by
          show f_MO_layFill_L52 b y (nI k) (999999 + 1) (b.1 71 k) (nI 0) = _
          rw [f_MO_layFill_L52.eq_2, if_neg (by decide)]
          simp only [G_n (show k < 64 by omega) (show 64 < 2147483648 by decide)]
          rw [cl (by omega), rb.2.2.1 k hk, if_neg hl, if_neg (by decide)]
        rw [hstep]
        simp only [Option.bind_some]
        rw [flag (b.1 71 k) false ⟨(fun q => by cases q), fun q => absurd (Int32.le_refl _) q⟩, Bool.or_false]
        simp only [Option.bind_some]
        refine ⟨(if mv then 1 else 0, sI b 71 k (b.1 71 k)), ⟨mv, rfl, ?_, g5, fun q hq => by rw [sI_ne hq]; exact g3 q hq, g4⟩, rfl⟩
        have e : fiM (sI b 71 k (b.1 71 k)) = fiM b := by
          funext g
          show ((sI b 71 k (b.1 71 k)).1 71 g).toInt = _
          by_cases e : g = k
          · subst e; rw [sI_at]
          · rw [sI_off e]
        dsimp only
        rw [e]
        exact ⟨g2.1, fun f hf hT => g2.2.1 f hf (by
          have : f ≠ k := fun q => hl (q ▸ hf)
          omega), g2.2.2.1, g2.2.2.2⟩)
  refine ⟨v.1, v.2, mv, ?_, h2, h3, h4, h5, h6⟩
  exact h1
theorem MO_layFill (hz : Sz w n ld) (h : ReM w n ld ht ν) (hh : Hts n ld ht) : ∃ a : Mem, f_MO_layFill ν = some a ∧ (∀ v : Int, v ≤ 1000000 → Clo w n ld ht (fiM a) v) ∧ Lst w n ld ht (fiM a) ∧ (∀ q, q ≠ 71 → a.1 q = ν.1 q) ∧ a.2 = ν.2 := by
  have hn := hz.2.2.1
  unfold f_MO_layFill
  obtain ⟨v, h1, h2, h3, h4⟩ := lp_0 (fun i a k => f_MO_layFill_L2 i a (nI k)) (fun k a => (∀ j, j < k → a.1 71 j = 3000000) ∧ (∀ q, q ≠ 71 → a.1 q = ν.1 q) ∧ a.2 = ν.2) (fun a => (∀ j, j < n → a.1 71 j = 3000000) ∧ (∀ q, q ≠ 71 → a.1 q = ν.1 q) ∧ a.2 = ν.2) n ν (by omega)
    ⟨fun j hj => absurd hj (Nat.not_lt_zero j), fun _ _ => rfl, rfl⟩
    (fun i a g => ⟨a, by
      show f_MO_layFill_L2 (i + 1) a (nI n) = _
      rw [f_MO_layFill_L2.eq_2, g.2.1 63 (by decide), h.2.1, if_pos (Int32.le_refl _)], g⟩)
    (fun i a k hk g => by
      refine ⟨sI a 71 k 3000000, ⟨fun j hj => ?_, fun q hq => by rw [sI_ne hq]; exact g.2.1 q hq, g.2.2⟩, ?_⟩
      · by_cases e : j = k
        · rw [e, sI_at]
        · rw [sI_off e]
          exact g.1 j (by omega)
      · show f_MO_layFill_L2 (i + 1) a (nI k) = f_MO_layFill_L2 i _ (nI (k + 1))
        rw [f_MO_layFill_L2.eq_2, g.2.1 63 (by decide), h.2.1, if_neg (nI_ge hk (by omega)), G_n (by omega) (by decide), cl (by omega), nI_1])
  rw [show f_MO_layFill_L2 FU ν 0 = some v from h1]
  simp only [Option.bind_some]
  have l0 : Lst w n ld ht (fiM v) := by
    intro x hx A hA f hf hle
    have e : (3000000 : Int32).toInt = 3000000 := rfl
    have : fiM v f = 3000000 := by show (v.1 71 f).toInt = _; rw [h2 f (hz.2.2.2.2 f hf), e]
    omega
  have good : ∀ b : Mem, (∀ q, q ≠ 71 → b.1 q = ν.1 q) → ReM w n ld ht b := fun b e1 => h.of (by rw [e1 63 (by decide)]) (by rw [e1 63 (by decide)]) (e1 67 (by decide)) (e1 68 (by decide))
  have key : ∀ d k fuel (b : Mem) (mv : Bool), k + d = n + 1 → d + 1 < fuel → (∀ q, q ≠ 71 → b.1 q = ν.1 q) → b.2 = ν.2 → Lst w n ld ht (fiM b) → Cnt w n ld ht (fiM b) k → (mv = false → ∀ v : Int, v ≤ 1000000 → Clo w n ld ht (fiM b) v) → ∃ a, f_MO_layFill_L26 fuel b (if mv then 1 else 0) = some a ∧ (∀ v : Int, v ≤ 1000000 → Clo w n ld ht (fiM a) v) ∧ Lst w n ld ht (fiM a) ∧ (∀ q, q ≠ 71 → a.1 q = ν.1 q) ∧ a.2 = ν.2 := by
    intro d
    induction d with
    | zero =>
      intro k fuel b mv hk hfu e1 e2 e3 e4 e5
      obtain ⟨fuel, rfl⟩ : ∃ x, fuel = x + 2 := ⟨fuel - 2, by omega⟩
      have hk : k = n + 1 := by omega
      subst hk
      have call := Cnt_all e4
      rw [show fuel + 2 = (fuel + 1) + 1 from rfl, f_MO_layFill_L26.eq_2]
      cases mv with
      | false => exact ⟨b, rfl, call, e3, e1, e2⟩
      | true =>
        rw [if_neg (by decide)]
        obtain ⟨x, a, mv, p1, p2, p3, p6, p4, p5⟩ := MO_pass hz (good b e1) hh
        have hm := p6 call
        subst hm
        rw [p1]
        simp only [Option.bind_some]
        rw [p2, f_MO_layFill_L26.eq_2]
        exact ⟨a, rfl, p3.2.2.2 rfl, Pas_Lst p3 e3, fun q hq => by rw [p4 q hq]; exact e1 q hq, by rw [p5]; exact e2⟩
    | succ d ih =>
      intro k fuel b mv hk hfu e1 e2 e3 e4 e5
      obtain ⟨fuel, rfl⟩ : ∃ x, fuel = x + 1 := ⟨fuel - 1, by omega⟩
      rw [f_MO_layFill_L26.eq_2]
      cases mv with
      | false => exact ⟨b, rfl, e5 rfl, e3, e1, e2⟩
      | true =>
        rw [if_neg (by decide)]
        obtain ⟨x, a, mv, p1, p2, p3, p6, p4, p5⟩ := MO_pass hz (good b e1) hh
        rw [p1]
        simp only [Option.bind_some]
        rw [p2]
        exact ih (k + 1) fuel a mv (by omega) (by omega) (fun q hq => by rw [p4 q hq]; exact e1 q hq) (by rw [p5]; exact e2) (Pas_Lst p3 e3) (Cnt_s hz.2.2.2.2 p3 e4) p3.2.2.2
  obtain ⟨a, q1, q2, q3, q4, q5⟩ := key (n + 1) 0 FU v true (by omega) (by unfold FU; omega) h3 h4 l0 Cnt_0 (fun q => by cases q)
  refine ⟨a, ?_, q2, q3, q4, q5⟩
  rw [show f_MO_layFill_L26 FU v 1 = some a from q1]
  rfl
end FILLM
