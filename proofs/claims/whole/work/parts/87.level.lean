/-! ===== level ===== -/
/-- the reference's sorted heights of a ground -/
def HsT (n : Nat) (P : Nat → Bool) (ht : Nat → Int32) (ν : Mem) (c : Nat) (e : Nat → Nat) : Prop := (∀ k, k < c → ν.1 84 k = ht (e k) ∧ e k < n ∧ P (e k) = true) ∧ (∀ i j, i < j → j < c → lw ht (e i) (e j) = true) ∧ ∀ f, P f = true → ∃ k, k < c ∧ e k = f
def lvS (x : Int32) (ht : Nat → Int32) (e : Nat → Nat) : Nat → Int32
  | 0 => x
  | j + 1 => lvS x ht e j + ht (e j)
section LEVEL
variable {w n m : Nat} {ld : Nat → Bool} {ht : Nat → Int32} {od : Nat → Nat} {dn we : Nat → Int32} {σ : qLS} {th : Nat → Bool} {wa mo : Nat → Int32} {μ ν : Mem}
theorem hs_loop (hn : n ≤ 64) (h : ReM w n ld ht ν) {f c : Nat} {e : Nat → Nat} (hf : f < n) (hc : c < 64) (he : ∀ k, k < c → e k < f) (hso : ∀ i j, i < j → j < c → lw ht (e i) (e j) = true) (y1 y2 : Int32) :
    ∀ (p fuel : Nat) (b : Mem), p ≤ c → p < fuel → (∀ k, k < p → b.1 84 k = ht (e k)) → (∀ k, p < k → k ≤ c → b.1 84 k = ht (e (k - 1))) → (∀ k, p ≤ k → k < c → lw ht f (e k) = true) → (∀ q, q ≠ 84 → b.1 q = ν.1 q) → b.2 = ν.2 →
    ∃ (p' : Nat) (b' : Mem), f_MO_layHeights_L24 y1 y2 (nI f) fuel b (nI p) = some (nI p', b') ∧ p' ≤ c ∧ (∀ k, k < p' → b'.1 84 k = ht (e k)) ∧ (∀ k, p' < k → k ≤ c → b'.1 84 k = ht (e (k - 1))) ∧ (∀ k, p' ≤ k → k < c → lw ht f (e k) = true) ∧ (∀ k, k < p' → lw ht (e k) f = true) ∧ (∀ q, q ≠ 84 → b'.1 q = ν.1 q) ∧ b'.2 = ν.2 := by
  intro p
  induction p with
  | zero =>
    intro fuel b hp hfu h1 h2 h3 h4 h5
    obtain ⟨fuel, rfl⟩ : ∃ x, fuel = x + 1 := ⟨fuel - 1, by omega⟩
    refine ⟨0, b, ?_, hp, h1, h2, h3, fun k hk => absurd hk (Nat.not_lt_zero k), h4, h5⟩
    rw [f_MO_layHeights_L24.eq_2, if_pos (by decide)]
  | succ p ih =>
    intro fuel b hp hfu h1 h2 h3 h4 h5
    obtain ⟨fuel, rfl⟩ : ∃ x, fuel = x + 1 := ⟨fuel - 1, by omega⟩
    have ep := he p (by omega)
    have hstep : f_MO_layHeights_L24 y1 y2 (nI f) (fuel + 1) b (nI (p + 1)) = if lw ht f (e p) = true then f_MO_layHeights_L24 y1 y2 (nI f) fuel (sI b 84 (p + 1) (ht (e p))) (nI p) else some (nI (p + 1), b) := by
      rw [f_MO_layHeights_L24.eq_2, if_neg (nI_nle (by omega) (by omega)), nI_pred]
      simp only [G_n (show p < 64 by omega) (show 64 < 2147483648 by decide), G_n (show f < 64 by omega) (show 64 < 2147483648 by decide)]
      rw [cl (by omega), cl (by omega), h1 p (by omega), h4 68 (by decide), h.2.2.2 f hf]
      by_cases c : lw ht f (e p) = true
      · have c' := lw_iff.mp c
        rw [if_pos c, if_neg (fun q => by rw [fa_le] at q; omega), G_n (by omega) (by decide), cl (by omega), pk_m1]
      · rw [if_neg c, if_pos]
        rw [fa_le]
        rw [lw_iff] at c
        omega
    rw [hstep]
    by_cases c : lw ht f (e p) = true
    · rw [if_pos c]
      refine ih fuel _ (by omega) (by omega) ?_ ?_ ?_ ?_ h5
      · intro k hk
        rw [sI_off (by omega)]
        exact h1 k (by omega)
      · intro k hk hkm
        by_cases q : k = p + 1
        · subst q; rw [sI_at]; rfl
        · rw [sI_off q]; exact h2 k (by omega) hkm
      · intro k hk hkm
        by_cases q : k = p
        · subst q; exact c
        · exact h3 k (by omega) hkm
      · intro q hq
        rw [sI_ne hq]
        exact h4 q hq
    · rw [if_neg c]
      refine ⟨p + 1, b, rfl, hp, h1, h2, h3, fun k hk => ?_, h4, h5⟩
      have hpf : lw ht (e p) f = true := (lw_tot (by omega)).resolve_right c
      by_cases q : k = p
      · subst q; exact hpf
      · exact lw_tr (hso k p (by omega) (by omega)) hpf
theorem hs_insert (hn : n ≤ 64) (h : ReM w n ld ht ν) {f c : Nat} {e : Nat → Nat} {P : Nat → Bool} (hf : f < n) (hc : c ≤ f) (hP : ∀ g, P g = true → g < f) (ho : HsT n P ht ν c e) (y1 y2 : Int32) : ∃ (p : Nat) (b : Mem) (e' : Nat → Nat), f_MO_layHeights_L24 y1 y2 (nI f) FU ν (nI c) = some (nI p, b) ∧ p < 64 ∧ (∀ q, q ≠ 84 → b.1 q = ν.1 q) ∧ b.2 = ν.2 ∧ HsT n (fun g => P g || decide (g = f)) ht (sI b 84 p (ht f)) (c + 1) e' := by
  obtain ⟨g2, g3, g4⟩ := ho
  have hne : ∀ k, k < c → e k < f := fun k hk => hP _ (g2 k hk).2.2
  obtain ⟨p, b, k1, k2, k3, k4, k5, k6, k7, k8⟩ := hs_loop hn h hf (by omega) hne g3 y1 y2 c FU ν (Nat.le_refl c) (by unfold FU; omega) (fun k hk => (g2 k hk).1) (fun k h1 h2 => absurd h1 (by omega)) (fun k h1 h2 => absurd h1 (by omega)) (fun _ _ => rfl) rfl
  refine ⟨p, b, fun k => if k < p then e k else if k = p then f else e (k - 1), k1, by omega, k7, k8, ?_, ?_, ?_⟩
  · intro k hk
    dsimp only
    by_cases e1 : k < p
    · rw [if_pos e1, sI_off (by omega), k3 k e1]
      exact ⟨rfl, (g2 k (by omega)).2.1, by simp [(g2 k (by omega)).2.2]⟩
    · rw [if_neg e1]
      by_cases e2 : k = p
      · subst e2
        rw [if_pos rfl, sI_at]
        exact ⟨rfl, hf, by simp⟩
      · rw [if_neg e2, sI_off e2, k4 k (by omega) (by omega)]
        exact ⟨rfl, (g2 (k - 1) (by omega)).2.1, by simp [(g2 (k - 1) (by omega)).2.2]⟩
  · intro i j hij hj
    by_cases i1 : i < p
    · simp only [if_pos i1]
      by_cases j1 : j < p
      · simp only [if_pos j1]; exact g3 i j hij (by omega)
      · simp only [if_neg j1]
        by_cases j2 : j = p
        · simp only [if_pos j2]; exact k6 i i1
        · simp only [if_neg j2]; exact g3 i (j - 1) (by omega) (by omega)
    · simp only [if_neg i1]
      rw [if_neg (show ¬ j < p by omega), if_neg (show ¬ j = p by omega)]
      by_cases i2 : i = p
      · simp only [if_pos i2]; exact k5 (j - 1) (by omega) (by omega)
      · simp only [if_neg i2]; exact g3 (i - 1) (j - 1) (by omega) (by omega)
  · intro g hg
    by_cases q : g = f
    · subst q
      exact ⟨p, by omega, by simp⟩
    · have : P g = true := by simpa [q] using hg
      obtain ⟨k, h1, h2⟩ := g4 g this
      by_cases e1 : k < p
      · exact ⟨k, by omega, by dsimp only; rw [if_pos e1]; exact h2⟩
      · exact ⟨k + 1, by omega, by dsimp only; rw [if_neg (by omega), if_neg (by omega)]; exact h2⟩
theorem LkM.heights (hn : n ≤ 64) (h : ReM w n ld ht ν) (hL : LkM σ th wa ν) (hN : qN σ ≤ 35) {l : Nat} (hl : l < qN σ) (hF : ∀ g, qF σ l g = true → g < n) : ∃ (a : Mem) (c : Nat) (e : Nat → Nat), f_MO_layHeights ν (nI l) = some (nI c, a) ∧ c ≤ n ∧ HsT n (qF σ l) ht a c e ∧ (∀ q, q ≠ 84 → a.1 q = ν.1 q) ∧ a.2 = ν.2 := by
  unfold f_MO_layHeights
  obtain ⟨v, h1, c, e, q1, q2, q3, q4, q5⟩ := lp_0 (fun i (a : Int32 × Mem) k => f_MO_layHeights_L4 (nI l) i a.2 a.1 (nI k)) (fun k a => ∃ (c : Nat) (e : Nat → Nat), a.1 = nI c ∧ c ≤ k ∧ HsT n (fun g => qF σ l g && decide (g < k)) ht a.2 c e ∧ (∀ q, q ≠ 84 → a.2.1 q = ν.1 q) ∧ a.2.2 = ν.2)
    (fun a => ∃ (c : Nat) (e : Nat → Nat), a.1 = nI c ∧ c ≤ n ∧ HsT n (qF σ l) ht a.2 c e ∧ (∀ q, q ≠ 84 → a.2.1 q = ν.1 q) ∧ a.2.2 = ν.2) n (0, ν) (by omega)
    ⟨0, fun _ => 0, rfl, Nat.le_refl 0, ⟨fun k hk => absurd hk (Nat.not_lt_zero k), fun i j _ hj => absurd hj (Nat.not_lt_zero j), fun f hf => by simp at hf⟩, fun _ _ => rfl, rfl⟩
    (fun i a g => by
      obtain ⟨c, e, q1, q2, q3, q4, q5⟩ := g
      refine ⟨(a.1, a.2), ?_, c, e, q1, q2, ?_, q4, q5⟩
      · show f_MO_layHeights_L4 (nI l) (i + 1) a.2 a.1 (nI n) = _
        rw [f_MO_layHeights_L4.eq_2, q4 63 (by decide), h.2.1, if_pos (Int32.le_refl _)]
      · have e2 : (fun g => qF σ l g && decide (g < n)) = qF σ l := by
          funext g
          cases c : qF σ l g with
          | false => rfl
          | true => simp [hF g c]
        rw [e2] at q3
        exact q3)
    (fun i a k hk g => by
      obtain ⟨y, a⟩ := a
      obtain ⟨c, e, q1, q2, q3, q4, q5⟩ := g
      dsimp only at q1 q2 q3 q4 q5
      subst q1
      have ra : ReM w n ld ht a := h.of (by rw [q4 63 (by decide)]) (by rw [q4 63 (by decide)]) (q4 67 (by decide)) (q4 68 (by decide))
      show ∃ a' : Int32 × Mem, _ ∧ f_MO_layHeights_L4 (nI l) (i + 1) a (nI c) (nI k) = f_MO_layHeights_L4 (nI l) i a'.2 a'.1 (nI (k + 1))
      rw [f_MO_layHeights_L4.eq_2, ra.2.1, if_neg (nI_ge hk (by omega)), MO_isOf (by omega) (by omega), q5, (hL.2 l hl).1 k, nI_1 k]
      simp only [Option.bind_some]
      by_cases d : qF σ l k = true
      · rw [if_pos d, if_neg n10]
        obtain ⟨p, b, e', p1, p2, p3, p4, p5⟩ := hs_insert hn ra hk q2 (fun g hg => by simp only [Bool.and_eq_true, decide_eq_true_eq] at hg; exact hg.2) q3 (nI l) (nI c)
        rw [p1]
        simp only [Option.bind_some]
        rw [G_n (by omega) (by decide), G_n p2 (by decide), cl (by omega), cl (by omega), p3 68 (by decide), ra.2.2.2 k hk, nI_1 c]
        refine ⟨(nI (c + 1), sI b 84 p (ht k)), ⟨c + 1, e', rfl, by omega, ?_, fun q hq => ?_, ?_⟩, rfl⟩
        · have e3 : (fun g => (qF σ l g && decide (g < k)) || decide (g = k)) = (fun g => qF σ l g && decide (g < k + 1)) := by
            funext g
            by_cases e1 : g = k
            · subst e1; simp [d]
            · have : decide (g < k + 1) = decide (g < k) := by apply decide_eq_decide.mpr; omega
              simp [e1, this]
          rw [e3] at p5
          exact p5
        · dsimp only
          rw [sI_ne hq, p3 q hq]
          exact q4 q hq
        · dsimp only
          rw [sI_2, p4]
          exact q5
      · rw [if_neg d, if_pos rfl]
        simp only [Option.bind_some]
        refine ⟨(nI c, a), ⟨c, e, rfl, by omega, ?_, q4, q5⟩, rfl⟩
        have e3 : (fun g => qF σ l g && decide (g < k + 1)) = (fun g => qF σ l g && decide (g < k)) := by
          funext g
          by_cases e1 : g = k
          · subst e1
            rw [Bool.eq_false_iff.mpr d]
            rfl
          · have : decide (g < k + 1) = decide (g < k) := by apply decide_eq_decide.mpr; omega
            rw [this]
        rw [e3]
        exact q3)
  obtain ⟨y, a⟩ := v
  dsimp only at q1 q3 q4 q5
  refine ⟨a, c, e, ?_, q2, q3, q4, q5⟩
  rw [show f_MO_layHeights_L4 (nI l) FU ν 0 0 = some (y, a) from h1, q1]
  rfl
theorem mulX {x : Int32} {J : Nat} (hx : -1000000 ≤ x.toInt ∧ x.toInt ≤ 1000000) (hJ : J ≤ 64) : (x.toInt64 * (nI J).toInt64).toInt = x.toInt * (J : Int) ∧ -64000000 ≤ x.toInt * (J : Int) ∧ x.toInt * (J : Int) ≤ 64000000 := by
  have h1 : x.toInt * (J : Int) ≤ 1000000 * (J : Int) := Int.mul_le_mul_of_nonneg_right hx.2 (by omega)
  have h2 : -1000000 * (J : Int) ≤ x.toInt * (J : Int) := Int.mul_le_mul_of_nonneg_right hx.1 (by omega)
  have e1 : x.toInt64.toInt = x.toInt := Int32.toInt_toInt64 x
  have e2 : (nI J).toInt64.toInt = (J : Int) := by rw [Int32.toInt_toInt64, nI_toInt (by omega)]
  refine ⟨?_, by omega, by omega⟩
  rw [fb_mulL (by rw [e1, e2]; omega) (by rw [e1, e2]; omega), e1, e2]
/-- goes on at j -/
def lvC (x : Int32) (ht : Nat → Int32) (e : Nat → Nat) (j : Nat) : Prop := (ht (e j)).toInt64 * (nI j).toInt64 < (lvS x ht e j).toInt64
/-- how many heights are under water -/
def LvJ (x : Int32) (ht : Nat → Int32) (e : Nat → Nat) (c J : Nat) : Prop := 1 ≤ J ∧ J ≤ c ∧ (J = c ∨ ¬ lvC x ht e J) ∧ ∀ j, 1 ≤ j → j < J → lvC x ht e j
theorem LvJ_ex (x : Int32) (ht : Nat → Int32) (e : Nat → Nat) {c : Nat} (hc : 1 ≤ c) : ∃ J, LvJ x ht e c J := by
  obtain ⟨J, j1, j2⟩ := pk_least (fun j => 1 ≤ j ∧ (j = c ∨ ¬ lvC x ht e j)) ⟨c, hc, Or.inl rfl⟩
  refine ⟨J, j1.1, ?_, j1.2, fun j h1 h2 => ?_⟩
  · exact Classical.byContradiction (fun q => j2 c (by omega) ⟨hc, Or.inl rfl⟩)
  · exact Classical.byContradiction (fun q => j2 j h2 ⟨h1, Or.inr q⟩)
/-- the reference's sum -/
theorem MO_levelL {c J : Nat} {e : Nat → Nat} {x : Int32} (hc : c ≤ 64) (ho : ∀ k, k < c → ν.1 84 k = ht (e k)) (hJ : LvJ x ht e c J) (y2 : Int32) : f_MO_level_L57 ν y2 (nI c) FU x 0 = some (lvS x ht e J, nI J) := by
  obtain ⟨j1, j2, j3, j4⟩ := hJ
  have key : ∀ d j fuel, j + d + 1 = J → d < fuel → f_MO_level_L57 ν y2 (nI c) fuel (lvS x ht e j) (nI j) = some (lvS x ht e J, nI J) := by
    intro d
    induction d with
    | zero =>
      intro j fuel hj hfu
      obtain ⟨fuel, rfl⟩ : ∃ z, fuel = z + 1 := ⟨fuel - 1, by omega⟩
      have : J = j + 1 := by omega
      subst this
      rw [f_MO_level_L57.eq_2, G_n (by omega) (by decide), cl (by omega), ho j (by omega), nI_1]
      show (if nI c ≤ nI (j + 1) then some (lvS x ht e (j + 1), nI (j + 1)) else _) = _
      rcases j3 with q | q
      · rw [if_pos (by rw [q]; exact Int32.le_refl _)]
      · by_cases q2 : j + 1 = c
        · rw [if_pos (by rw [q2]; exact Int32.le_refl _)]
        · rw [if_neg (nI_ge (by omega) (by omega)), G_n (by omega) (by decide), cl (by omega), ho (j + 1) (by omega), if_neg]
          · rfl
          · rw [lg_gt0, Int64.mul_comm]
            exact q
    | succ d ih =>
      intro j fuel hj hfu
      obtain ⟨fuel, rfl⟩ : ∃ z, fuel = z + 1 := ⟨fuel - 1, by omega⟩
      rw [f_MO_level_L57.eq_2, G_n (by omega) (by decide), cl (by omega), ho j (by omega), nI_1]
      show (if nI c ≤ nI (j + 1) then some (lvS x ht e (j + 1), nI (j + 1)) else _) = _
      rw [if_neg (nI_ge (by omega) (by omega)), G_n (by omega) (by decide), cl (by omega), ho (j + 1) (by omega), if_pos]
      · exact ih (j + 1) fuel (by omega) (by omega)
      · rw [lg_gt0, Int64.mul_comm]
        exact j4 (j + 1) (by omega) (by omega)
  exact key (J - 1) 0 FU (by omega) (by unfold FU; omega)
/-- how far the class's order has come in the ground -/
def lvP (m : Nat) (od e : Nat → Nat) (c k j : Nat) : Prop := j ≤ c ∧ (∀ i, i < j → ∃ i', i' < k ∧ od i' = e i) ∧ ∀ i, j ≤ i → i < c → ∃ i', k ≤ i' ∧ i' < m ∧ od i' = e i
theorem lvP_t {F : Nat → Bool} {c k j : Nat} {e : Nat → Nat} (hod : ∀ i j, i < j → j < m → lw ht (od i) (od j) = true) (he : ∀ i j, i < j → j < c → lw ht (e i) (e j) = true) (hon : ∀ f, F f = true → ∃ k, k < c ∧ e k = f) (h : lvP m od e c k j) (hk : k < m) (hF : F (od k) = true) : j < c ∧ od k = e j ∧ lvP m od e c (k + 1) (j + 1) := by
  obtain ⟨h1, h2, h3⟩ := h
  obtain ⟨i, i1, i2⟩ := hon (od k) hF
  have a1 : j ≤ i := by
    refine Classical.byContradiction (fun q => ?_)
    obtain ⟨i', p1, p2⟩ := h2 i (by omega)
    have := hod i' k p1 hk
    rw [p2, i2] at this
    exact lw_irr this
  have a2 : i = j := by
    refine Classical.byContradiction (fun q => ?_)
    obtain ⟨i', p1, p2, p3⟩ := h3 j (Nat.le_refl _) (by omega)
    have q1 := he j i (by omega) i1
    rw [← p3, i2] at q1
    by_cases r : i' = k
    · rw [r] at q1; exact lw_irr q1
    · exact lw_asym q1 (hod k i' (by omega) p2)
  subst a2
  refine ⟨i1, i2.symm, by omega, fun x hx => ?_, fun x hx hxc => ?_⟩
  · by_cases r : x = i
    · subst r; exact ⟨k, by omega, i2.symm⟩
    · obtain ⟨i', p1, p2⟩ := h2 x (by omega)
      exact ⟨i', by omega, p2⟩
  · obtain ⟨i', p1, p2, p3⟩ := h3 x (by omega) hxc
    refine ⟨i', ?_, p2, p3⟩
    have : i' ≠ k := fun r => by
      have q1 := he i x (by omega) hxc
      rw [i2, ← p3, r] at q1
      exact lw_irr q1
    omega
theorem lvP_f {F : Nat → Bool} {c k j : Nat} {e : Nat → Nat} (hFe : ∀ k, k < c → F (e k) = true) (h : lvP m od e c k j) (hF : ¬ F (od k) = true) : lvP m od e c (k + 1) j := by
  obtain ⟨h1, h2, h3⟩ := h
  refine ⟨h1, fun x hx => ?_, fun x hx hxc => ?_⟩
  · obtain ⟨i', p1, p2⟩ := h2 x hx
    exact ⟨i', by omega, p2⟩
  · obtain ⟨i', p1, p2, p3⟩ := h3 x hx hxc
    refine ⟨i', ?_, p2, p3⟩
    have : i' ≠ k := fun r => hF (by rw [← r, p3]; exact hFe x hxc)
    omega
theorem RE_surfaceL (hz : Sz w n ld) (hh : Hts n ld ht) (R : ReC w n ld ht μ) (O : OrC n ld ht μ m od) (hm : m ≤ n) {c J : Nat} {e : Nat → Nat} {x : Int32} (hc : c ≤ n) (s : Int64) (hF : ∀ g, bit s g = true → ld g = true) (he1 : ∀ k, k < c → bit s (e k) = true) (he2 : ∀ i j, i < j → j < c → lw ht (e i) (e j) = true) (he3 : ∀ f, bit s f = true → ∃ k, k < c ∧ e k = f) (hJ : LvJ x ht e c J) (y4 : Int32) : f_RE_surface_L9 μ s y4 FU x 0 0 = some (lvS x ht e J, nI J) := by
  have hn := hz.2.2.1
  obtain ⟨j1, j2, j3, j4⟩ := hJ
  have stop : ∀ j, J ≤ j → j < c → (lvS x ht e J).toInt64 ≤ (ht (e j)).toInt64 * (nI J).toInt64 := by
    intro j h1 h2
    have q : ¬ lvC x ht e J := j3.resolve_left (by omega)
    unfold lvC at q
    rw [fa_lt64, (mulX (hh _ (hF _ (he1 J (by omega)))) (by omega)).1] at q
    rw [fa_le64, (mulX (hh _ (hF _ (he1 j h2))) (by omega)).1]
    have hle : (ht (e J)).toInt ≤ (ht (e j)).toInt := by
      by_cases r : J = j
      · rw [r]; exact Int.le_refl _
      · have := lw_iff.mp (he2 J j (by omega) h2)
        omega
    have := Int.mul_le_mul_of_nonneg_right hle (show (0 : Int) ≤ (J : Int) by omega)
    omega
  obtain ⟨v, v1, v2⟩ := lp_0 (fun i (a : Int32 × Int32) k => f_RE_surface_L9 μ s y4 i a.1 a.2 (nI k)) (fun k a => ∃ j, lvP m od e c k j ∧ a.1 = lvS x ht e (min j J) ∧ a.2 = nI (min j J)) (fun a => a = (lvS x ht e J, nI J)) m (x, 0) (by omega)
    ⟨0, ⟨Nat.zero_le _, fun i hi => absurd hi (Nat.not_lt_zero i), fun i _ hi => by
      obtain ⟨k, k1, k2⟩ := O.2.2.2 (e i) (hF _ (he1 i hi))
      exact ⟨k, Nat.zero_le _, k1, k2⟩⟩, by rw [Nat.zero_min]; rfl, by rw [Nat.zero_min]; rfl⟩
    (fun i a g => by
      obtain ⟨j, g1, g2, g3⟩ := g
      have ej : j = c := by
        refine Classical.byContradiction (fun q => ?_)
        obtain ⟨i', p1, p2, -⟩ := g1.2.2 j (Nat.le_refl _) (by have := g1.1; omega)
        omega
      rw [ej, Nat.min_eq_right j2] at g2 g3
      obtain ⟨a1, a2⟩ := a
      dsimp only at g2 g3
      refine ⟨(a1, a2), ?_, by rw [g2, g3]⟩
      show f_RE_surface_L9 μ s y4 (i + 1) a1 a2 (nI m) = _
      rw [f_RE_surface_L9.eq_2, O.1, if_pos (Int32.le_refl _)])
    (fun i a k hk g => by
      obtain ⟨j, g1, g2, g3⟩ := g
      obtain ⟨a1, a2⟩ := a
      dsimp only at g2 g3
      subst g2
      subst g3
      obtain ⟨o1, o2, o3⟩ := O.2.1 k hk
      show ∃ a' : Int32 × Int32, _ ∧ f_RE_surface_L9 μ s y4 (i + 1) _ _ (nI k) = f_RE_surface_L9 μ s y4 i a'.1 a'.2 (nI (k + 1))
      rw [f_RE_surface_L9.eq_2, O.1, if_neg (nI_ge hk (by omega)), nI_1 k, G_n (by omega) (by decide), cl (by omega), o1, isIn_eq _ (by omega)]
      simp only [G_n (show od k < 64 by omega) (show 64 < 2147483648 by decide)]
      rw [cl (by omega), R.2.2.2 _ o2]
      by_cases d : bit s (od k) = true
      · obtain ⟨p1, p2, p3⟩ := lvP_t O.2.2.1 he2 he3 g1 hk d
        rw [if_pos d, if_neg n10, p2]
        by_cases q : j < J
        · have em : min j J = j := Nat.min_eq_left (by omega)
          have em2 : min (j + 1) J = j + 1 := Nat.min_eq_left (by omega)
          refine ⟨(lvS x ht e (j + 1), nI (j + 1)), ⟨j + 1, p3, by rw [em2], by rw [em2]⟩, ?_⟩
          rw [em]
          by_cases j0 : j = 0
          · subst j0
            rw [if_pos (by decide), nI_1]
            rfl
          · rw [if_neg (nI_ne0 (by omega) (by omega)), if_neg, nI_1]
            · rfl
            · rw [lg_le0, Int64.not_le]
              exact j4 j (by omega) q
        · have em : min j J = J := Nat.min_eq_right (by omega)
          have em2 : min (j + 1) J = J := Nat.min_eq_right (by omega)
          refine ⟨(lvS x ht e J, nI J), ⟨j + 1, p3, by rw [em2], by rw [em2]⟩, ?_⟩
          rw [em, if_neg (nI_ne0 (by omega) (by omega)), if_pos]
          · rfl
          · rw [lg_le0]
            exact stop j (by omega) p1
      · rw [if_neg d, if_pos rfl]
        exact ⟨_, ⟨j, lvP_f he1 g1 d, rfl, rfl⟩, rfl⟩)
  rw [show f_RE_surface_L9 μ s y4 FU x 0 0 = some v from v1, v2]
/-! the greatest common divisor -/
theorem gcd_s {a b : Nat} : Nat.gcd a b = Nat.gcd b (a % b) := by
  rw [Nat.gcd_comm a b, Nat.gcd_rec, Nat.gcd_comm]
theorem RE_gcd : ∀ d s fuel a b, s + d = 64 → b ≤ d → d < fuel → a < 2147483648 → f_RE_greatestDivisor_L7 fuel (nI a) (nI b) (nI s) = some (nI (Nat.gcd a b)) := by
  intro d
  induction d with
  | zero =>
    intro s fuel a b hs hb hfu ha
    obtain ⟨fuel, rfl⟩ : ∃ z, fuel = z + 1 := ⟨fuel - 1, by omega⟩
    have e1 : s = 64 := by omega
    have e2 : b = 0 := by omega
    subst e1
    subst e2
    rw [f_RE_greatestDivisor_L7.eq_2, if_pos (by decide), Nat.gcd_zero_right]
  | succ d ih =>
    intro s fuel a b hs hb hfu ha
    obtain ⟨fuel, rfl⟩ : ∃ z, fuel = z + 1 := ⟨fuel - 1, by omega⟩
    rw [f_RE_greatestDivisor_L7.eq_2, if_neg (nge 64 (b := 64) rfl (by omega) (by decide))]
    by_cases c : b = 0
    · subst c
      rw [if_pos (by decide), Nat.gcd_zero_right]
    · rw [if_neg (nI_ne0 (by omega) (by omega))]
      unfold Zg
      have hm := Nat.mod_lt a (show 0 < b by omega)
      rw [if_neg (nI_ne0 (by omega) (by omega)), pk_rem (by omega) (by omega) (by omega), nI_1, gcd_s]
      exact ih (s + 1) fuel b (a % b) (by omega) (by omega) (by omega) (by omega)
theorem MO_gcd : ∀ d fuel a b, b ≤ d → d < fuel → a < 2147483648 → d ≤ 64 → f_MO_common_L13 fuel (nI a) (nI b) = some (nI (Nat.gcd a b)) := by
  intro d
  induction d with
  | zero =>
    intro fuel a b hb hfu ha _
    obtain ⟨fuel, rfl⟩ : ∃ z, fuel = z + 1 := ⟨fuel - 1, by omega⟩
    have e2 : b = 0 := by omega
    subst e2
    rw [f_MO_common_L13.eq_2, if_pos (by decide), Nat.gcd_zero_right]
  | succ d ih =>
    intro fuel a b hb hfu ha hd
    obtain ⟨fuel, rfl⟩ : ∃ z, fuel = z + 1 := ⟨fuel - 1, by omega⟩
    rw [f_MO_common_L13.eq_2]
    by_cases c : b = 0
    · subst c
      rw [if_pos (by decide), Nat.gcd_zero_right]
    · rw [if_neg (nI_ne0 (by omega) (by omega))]
      unfold Zg
      have hm := Nat.mod_lt a (show 0 < b by omega)
      rw [if_neg (nI_ne0 (by omega) (by omega)), pk_rem (by omega) (by omega) (by omega), gcd_s]
      exact ih fuel b (a % b) (by omega) (by omega) (by omega) (by omega)
theorem two_gcd {x : Int32} {J : Nat} (hx : -2147483648 < x.toInt) (hJ : J ≤ 64) (hJ1 : 1 ≤ J) : ∃ g, 0 < g ∧ g < 2147483648 ∧ f_RE_greatestDivisor (if 0 ≤ x then x else 0 - x) (nI J) = some (nI g) ∧ f_MO_common x (nI J) = some (nI g) := by
  have e0 : (0 : Int32).toInt = 0 := rfl
  have hr := fb_rng x
  have key : ∃ a, a < 2147483648 ∧ (if 0 ≤ x then x else 0 - x) = nI a ∧ (if 0 ≤ x then some x else some (-x)) = some (nI a) := by
    by_cases c : 0 ≤ x
    · rw [if_pos c, if_pos c]
      rw [fa_le, e0] at c
      obtain ⟨k, k1, -, k3⟩ := ge_nI (x := x) c
      exact ⟨k, k3, k1, by rw [← k1]⟩
    · rw [if_neg c, if_neg c]
      rw [fa_le, e0] at c
      have e1 : (0 - x).toInt = -x.toInt := by rw [fb_subI (by rw [e0]; omega) (by rw [e0]; omega), e0]; omega
      have e2 : (-x).toInt = -x.toInt := fb_negI (by omega)
      obtain ⟨k, k1, -, k3⟩ := ge_nI (x := 0 - x) (by rw [e1]; omega)
      refine ⟨k, k3, k1, ?_⟩
      rw [← k1]
      have e3 : -x = 0 - x := by rw [fa_eq, e1, e2]
      rw [e3]
  obtain ⟨a, a1, a2, a3⟩ := key
  have hg : 0 < Nat.gcd a J := Nat.gcd_pos_of_pos_right a (by omega)
  have hg2 : Nat.gcd a J ≤ J := Nat.gcd_le_right a (by omega)
  refine ⟨Nat.gcd a J, hg, by omega, ?_, ?_⟩
  · unfold f_RE_greatestDivisor
    rw [a2, show f_RE_greatestDivisor_L7 FU (nI a) (nI J) 0 = some (nI (Nat.gcd a J)) from RE_gcd 64 0 FU a J (by omega) hJ (by unfold FU; omega) a1]
    rfl
  · unfold f_MO_common
    rw [a3]
    simp only [Option.bind_some]
    rw [MO_gcd 64 FU a J hJ (by unfold FU; omega) a1 (by omega)]
    rfl
theorem lvS_bd {x : Int32} {e : Nat → Nat} {c : Nat} (hx : 0 ≤ x.toInt ∧ x.toInt ≤ 128000000) (he : ∀ k, k < c → -1000000 ≤ (ht (e k)).toInt ∧ (ht (e k)).toInt ≤ 1000000) (hc : c ≤ 64) : ∀ j, j ≤ c → -(j * 1000000 : Int) ≤ (lvS x ht e j).toInt ∧ (lvS x ht e j).toInt ≤ 128000000 + j * 1000000 := by
  intro j
  induction j with
  | zero => intro _; exact ⟨by show _ ≤ x.toInt; omega, by show x.toInt ≤ _; omega⟩
  | succ j ih =>
    intro hj
    have i1 := ih (by omega)
    have i2 := he j (by omega)
    show _ ≤ (lvS x ht e j + ht (e j)).toInt ∧ (lvS x ht e j + ht (e j)).toInt ≤ _
    rw [fb_addI (by omega) (by omega)]
    omega
theorem j_level (a b : Int32) (hJ : JJ μ ν) : ∃ (r : Int32) (ν' : Mem), f_LR_level μ a b = some r ∧ f_MO_level ν a b = some (r, ν') ∧ JJ μ ν' := by
  unfold f_LR_level f_MO_level
  rcases hJ.2 with ⟨q1, q2⟩ | ⟨q1, q2, hL⟩
  · rw [q1, q2, if_pos rfl, if_pos rfl]
    exact ⟨_, ν, rfl, rfl, hJ⟩
  obtain ⟨w, n, m, ld, ht, od, dn, we, σ, th, wa, ⟨hz, hh, hm, R, B, O, M, D, V, V2⟩, T, LC, LM, W, h6, h7⟩ := id hL
  have hn := hz.2.2.1
  have hN := T.2.1
  rw [q1, q2, if_neg n10, if_neg n10]
  rcases two_lakes LC LM T.2.1 a with ⟨c1, c2⟩ | ⟨l, hl, rfl, c1, c2⟩
  · rw [c1, c2, if_pos rfl]
    exact ⟨_, ν, rfl, rfl, hJ⟩
  rw [c1, c2, if_neg n10]
  simp only [Option.bind_some]
  rw [if_neg n10]
  simp only [G_n (show l < 64 by omega) (show 64 < 2147483648 by decide), G_n (show l < 35 by omega) (show 35 < 2147483648 by decide)]
  obtain ⟨k1, k2, k3, k4, k5, k6, k7, k8⟩ := LC.2 l hl
  obtain ⟨i1, i2, i3, i4, i5, i6, i7, i8⟩ := LM.2 l hl
  rw [cl (by omega), k7, i7]
  by_cases t : th l = true
  · rw [if_pos t, if_neg n10, if_neg n10]
    by_cases b0 : b < 0
    · rw [if_pos b0, show f_MO_in b.toInt64 0 1 = 0 from MOin_no (x := b) (a := 0) (b := 1) (Or.inl b0), if_pos rfl]
      exact ⟨_, ν, rfl, rfl, hJ⟩
    rw [if_neg b0]
    by_cases b1 : b ≤ 1
    · rw [if_pos b1, show f_MO_in b.toInt64 0 1 = 1 from MOin_yes (x := b) (a := 0) (b := 1) (Int32.not_lt.mp b0) b1, if_neg n10]
      have hF : ∀ g, qF σ l g = true → ld g = true := fun g hg => T.1.1.1 l hl g hg
      obtain ⟨ν', c, e, p1, p2, ⟨p3, p4, p5⟩, p6, p7⟩ := LM.heights hn M hN hl (fun g hg => hz.2.2.2.2 g (hF g hg))
      rw [p1]
      simp only [Option.bind_some]
      rw [p6 79 (by decide), i8, k8]
      have c1 : 1 ≤ c := by
        obtain ⟨g, hg⟩ := T.1.2.1.2.2.2 l hl
        obtain ⟨k, hk, -⟩ := p5 g hg
        omega
      obtain ⟨J, hLJ⟩ := LvJ_ex (wa l) ht e c1
      have eF : bit (μ.2 (28 + l) 0) = qF σ l := funext k1
      have hsf : ∀ y : Int32, f_RE_surface_L9 μ (μ.2 (28 + l) 0) y FU (wa l) 0 0 = some (lvS (wa l) ht e J, nI J) := fun y => RE_surfaceL hz hh R O hm p2 _ (by rw [eF]; exact hF) (by rw [eF]; exact fun k hk => (p3 k hk).2.2) p4 (by rw [eF]; exact p5) hLJ y
      rw [MO_levelL (ν := ν') (by omega) (fun k hk => (p3 k hk).1) hLJ b]
      simp only [Option.bind_some]
      obtain ⟨-, -, -, -, -, -, mo2⟩ := mo_int hz hh T.1 hl
      have hw := W.2.2 l hl
      have hb := lvS_bd (x := wa l) (e := e) (c := c) ⟨hw.1, by omega⟩ (fun k hk => hh _ (hF _ (p3 k hk).2.2)) (by omega) J hLJ.2.1
      obtain ⟨g, g1, g2, g3, g4⟩ := two_gcd (x := lvS (wa l) ht e J) (J := J) (by have := hLJ.2.1; omega) (by have := hLJ.2.1; omega) hLJ.1
      rw [g4]
      simp only [Option.bind_some]
      have hg0 : ¬ nI g = 0 := nI_ne0 g1 g2
      have hJ' : JJ μ ν' := by
        refine ⟨fun r hr => ?_, Or.inr ⟨q1, by rw [p6 63 (by decide)]; exact q2, hL.of (fun _ _ _ => rfl) rfl (p6 63 (by decide)) (fun q _ _ => p6 q (by omega)) p7⟩⟩
        rw [p6 64 (by decide), p6 65 (by decide), p6 66 (by decide)]
        exact hJ.1 r hr
      unfold f_RE_surface
      by_cases d : b = 0
      · rw [if_pos d, if_pos d]
        simp only [Option.bind_some]
        rw [hsf]
        simp only [Option.bind_some]
        rw [g3]
        simp only [Option.bind_some]
        unfold Zg
        rw [if_neg hg0, if_neg n10, if_neg hg0]
        simp only [Option.bind_some]
        rw [if_neg hg0]
        exact ⟨_, ν', rfl, rfl, hJ'⟩
      · rw [if_neg d, if_neg d]
        simp only [Option.bind_some]
        rw [hsf]
        simp only [Option.bind_some]
        rw [g3]
        simp only [Option.bind_some]
        unfold Zg
        rw [if_neg hg0, if_neg hg0]
        simp only [if_true, Option.bind_some]
        rw [if_neg hg0]
        exact ⟨_, ν', rfl, rfl, hJ'⟩
    · rw [if_neg b1, show f_MO_in b.toInt64 0 1 = 0 from MOin_no (x := b) (a := 0) (b := 1) (Or.inr (Int32.not_le.mp b1)), if_pos rfl]
      exact ⟨_, ν, rfl, rfl, hJ⟩
  · rw [if_neg t, if_pos rfl, if_pos rfl]
    exact ⟨_, ν, rfl, rfl, hJ⟩
end LEVEL
