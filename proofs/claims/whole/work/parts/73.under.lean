/-! ===== a field goes under, without memory ===== -/
def qspls (T : Nat → Bool) (f : Nat) (σ : qLS) : Nat → qLS
  | 0 => σ
  | k + 1 => if T k = true then qspl (qspls T f σ k) f k else qspls T f σ k
def qjns (T : Nat → Bool) (f : Nat) (σ : qLS) : Nat → Option Nat × qLS
  | 0 => (none, σ)
  | k + 1 => if T k = true then (match (qjns T f σ k).1 with
      | none => (some k, (qjns T f σ k).2)
      | some t => (some (qN (qjns T f σ k).2), qdbl (qjns T f σ k).2 f t k)) else qjns T f σ k
def qgo (b : Bool) (T : Nat → Bool) (σ : qLS) (f : Nat) : qLS := if b = true then qsel (qspls T f σ (qN σ)) f else match (qjns T f σ (qN σ)).1 with
  | none => qsgl σ f
  | some t => qadf (qjns T f σ (qN σ)).2 f t
/-- a lake touches a field -/
def qto (w n : Nat) (ld : Nat → Bool) (F : Nat → Nat → Bool) (f l : Nat) : Prop := ∃ k, k < 4 ∧ ∃ g, nbr w n ld f k = some g ∧ F l g = true
def qTs (w n : Nat) (ld : Nat → Bool) (σ : qLS) (f : Nat) (T : Nat → Bool) : Prop := ∀ l, T l = true ↔ l < qN σ ∧ qW σ l = -3 ∧ qto w n ld (qF σ) f l
def qbs (w n : Nat) (ld : Nat → Bool) (σ : qLS) (f : Nat) (b : Bool) : Prop := b = true ↔ (bsea (nbr w n ld f) ∨ ∃ k, k < 4 ∧ ∃ g, nbr w n ld f k = some g ∧ qS σ g = true)
section UNDER
variable {w n : Nat} {ld : Nat → Bool} {ht : Nat → Int32} {dn : Nat → Int32} {σ : qLS} {U T : Nat → Bool} {f : Nat} {b : Bool}
theorem qspls_t {k : Nat} (h : T k = true) : qspls T f σ (k + 1) = qspl (qspls T f σ k) f k := if_pos h
theorem qspls_f {k : Nat} (h : T k = false) : qspls T f σ (k + 1) = qspls T f σ k := if_neg (by simp [h])
theorem qjns_f {k : Nat} (h : T k = false) : qjns T f σ (k + 1) = qjns T f σ k := if_neg (by simp [h])
theorem qjns_n {k : Nat} (h : T k = true) (e : (qjns T f σ k).1 = none) : qjns T f σ (k + 1) = (some k, (qjns T f σ k).2) := by
  show (if T k = true then _ else _) = _
  rw [if_pos h, e]
theorem qjns_s {k t : Nat} (h : T k = true) (e : (qjns T f σ k).1 = some t) : qjns T f σ (k + 1) = (some (qN (qjns T f σ k).2), qdbl (qjns T f σ k).2 f t k) := by
  show (if T k = true then _ else _) = _
  rw [if_pos h, e]
def qPs (w n : Nat) (ld : Nat → Bool) (dn : Nat → Int32) (U : Nat → Bool) (T : Nat → Bool) (σ τ : qLS) (k : Nat) : Prop := qInv w n ld dn τ U ∧ qN τ = qN σ ∧ qF τ = qF σ ∧ qA τ = qA σ ∧ qB τ = qB σ ∧ (∀ l, l < k → qW τ l = -3 → T l = false ∧ qW σ l = -3) ∧ (∀ l, k ≤ l → qW τ l = qW σ l) ∧ (∀ g, qS τ g = true ↔ qS σ g = true ∨ ∃ l, l < k ∧ T l = true ∧ qF σ l g = true)
theorem qspls_P (hN : qN σ < 1000) (hI : qInv w n ld dn σ U) (hT : qTs w n ld σ f T) (hf : f < n) (hlf : ld f = true) : ∀ k, k ≤ qN σ → qPs w n ld dn U T σ (qspls T f σ k) k := by
  intro k
  induction k with
  | zero => intro _; exact ⟨hI, rfl, rfl, rfl, rfl, fun l h => absurd h (Nat.not_lt_zero l), fun _ _ => rfl, fun g => ⟨Or.inl, fun h => h.elim id (fun ⟨l, h, _⟩ => absurd h (Nat.not_lt_zero l))⟩⟩
  | succ k ih =>
    intro hk
    obtain ⟨p1, p2, p3, p4, p5, p6, p7, p8⟩ := ih (by omega)
    cases c : T k with
    | false =>
      rw [qspls_f c]
      refine ⟨p1, p2, p3, p4, p5, ?_, fun l hl => p7 l (by omega), ?_⟩
      · intro l hl hw
        by_cases e : l = k
        · subst e
          exact ⟨c, by rw [← p7 l (Nat.le_refl _)]; exact hw⟩
        · exact p6 l (by omega) hw
      · intro g
        rw [p8 g]
        constructor
        · rintro (h | ⟨l, h1, h2⟩)
          · exact Or.inl h
          · exact Or.inr ⟨l, by omega, h2⟩
        · rintro (h | ⟨l, h1, h2, h3⟩)
          · exact Or.inl h
          · by_cases e : l = k
            · subst e; rw [c] at h2; cases h2
            · exact Or.inr ⟨l, by omega, h2, h3⟩
    | true =>
      rw [qspls_t c]
      obtain ⟨t1, t2, t3⟩ := (hT k).mp c
      have wk : qW (qspls T f σ k) k = -3 := by rw [p7 k (Nat.le_refl _)]; exact t2
      refine ⟨qs_Inv (by omega) p1 (by omega) wk hf hlf, p2, p3, p4, p5, ?_, ?_, ?_⟩
      · intro l hl hw
        obtain ⟨h1, h2⟩ := qs_top hw
        exact p6 l (by omega) h2
      · intro l hl
        rw [qs_W (by omega)]
        exact p7 l (by omega)
      · intro g
        show (qS (qspls T f σ k) g || qF (qspls T f σ k) k g) = true ↔ _
        rw [Bool.or_eq_true, p8 g, p3]
        constructor
        · rintro ((h | ⟨l, h1, h2⟩) | h)
          · exact Or.inl h
          · exact Or.inr ⟨l, by omega, h2⟩
          · exact Or.inr ⟨k, by omega, c, h⟩
        · rintro (h | ⟨l, h1, h2, h3⟩)
          · exact Or.inl (Or.inl h)
          · by_cases e : l = k
            · subst e; exact Or.inr h3
            · exact Or.inl (Or.inr ⟨l, by omega, h2, h3⟩)
def qPj (w n : Nat) (ld : Nat → Bool) (dn : Nat → Int32) (U : Nat → Bool) (T : Nat → Bool) (f : Nat) (σ : qLS) (oτ : Option Nat × qLS) (k : Nat) : Prop := qInv w n ld dn oτ.2 U ∧ qN oτ.2 ≤ 35 ∧ qN σ ≤ qN oτ.2 ∧ qS oτ.2 = qS σ ∧ (∀ l, l < qN σ → qF oτ.2 l = qF σ l) ∧ (∀ l, k ≤ l → l < qN σ → qW oτ.2 l = qW σ l) ∧ (oτ.1 = none → oτ.2 = σ ∧ ∀ l, l < k → T l = false) ∧ ∀ t, oτ.1 = some t → t < qN oτ.2 ∧ qW oτ.2 t = -3 ∧ (t < k ∨ qN σ ≤ t) ∧ qto w n ld (qF oτ.2) f t ∧ ∀ l, l < k → T l = true → ∀ g, qF σ l g = true → qF oτ.2 t g = true
theorem qjns_P (hz : Sz w n ld) (hdn : ∀ f, ld f = true → Dn ht (nbr w n ld f) f (dn f)) (hN : qN σ < 1000) (hI : qInv w n ld dn σ U) (hT : qTs w n ld σ f T) (hf : f < n) (hlf : ld f = true) : ∀ k, k ≤ qN σ → qPj w n ld dn U T f σ (qjns T f σ k) k := by
  intro k
  induction k with
  | zero => intro _; exact ⟨hI, q_35 hz hdn hN hI, Nat.le_refl _, rfl, fun _ _ => rfl, fun _ _ _ => rfl, fun _ => ⟨rfl, fun l h => absurd h (Nat.not_lt_zero l)⟩, fun t h => by cases h⟩
  | succ k ih =>
    intro hk
    obtain ⟨p1, p2, p3, p4, p5, p6, p7, p8⟩ := ih (by omega)
    cases c : T k with
    | false =>
      rw [qjns_f c]
      refine ⟨p1, p2, p3, p4, p5, fun l hl => p6 l (by omega), ?_, ?_⟩
      · intro e
        refine ⟨(p7 e).1, fun l hl => ?_⟩
        by_cases h : l = k
        · subst h; exact c
        · exact (p7 e).2 l (by omega)
      · intro t e
        obtain ⟨t1, t2, t3, t4, t5⟩ := p8 t e
        refine ⟨t1, t2, t3.elim (fun h => Or.inl (by omega)) Or.inr, t4, fun l hl hTl => ?_⟩
        by_cases h : l = k
        · subst h; rw [c] at hTl; cases hTl
        · exact t5 l (by omega) hTl
    | true =>
      obtain ⟨u1, u2, u3⟩ := (hT k).mp c
      have wk : qW (qjns T f σ k).2 k = -3 := by rw [p6 k (Nat.le_refl _) u1]; exact u2
      have tk : qto w n ld (qF (qjns T f σ k).2) f k := by
        obtain ⟨k', k1, g, k2, k3⟩ := u3
        exact ⟨k', k1, g, k2, by rw [p5 k u1]; exact k3⟩
      cases e : (qjns T f σ k).1 with
      | none =>
        rw [qjns_n c e]
        refine ⟨p1, p2, p3, p4, p5, fun l hl => p6 l (by omega), fun h => (by cases h), ?_⟩
        intro t et
        cases et
        refine ⟨by show k < qN (qjns T f σ k).2; omega, wk, Or.inl (by omega), tk, fun l hl hTl g hg => ?_⟩
        by_cases h : l = k
        · subst h; show qF (qjns T f σ l).2 l g = true; rw [p5 l u1]; exact hg
        · have := (p7 e).2 l (by omega)
          rw [this] at hTl; cases hTl
      | some t =>
        rw [qjns_s c e]
        obtain ⟨t1, t2, t3, t4, t5⟩ := p8 t e
        have hne : t ≠ k := by omega
        have kN : k < qN (qjns T f σ k).2 := by omega
        have hI' := qd_Inv (f := f) (by omega) p1 t1 kN hne t2 wk hf hlf t4 tk
        have hN' : qN (qdbl (qjns T f σ k).2 f t k) = qN (qjns T f σ k).2 + 1 := rfl
        refine ⟨hI', q_35 hz hdn (by dsimp only; omega) hI', by dsimp only; omega, p4, ?_, ?_, fun h => (by cases h), ?_⟩
        · intro l hl
          show qF (qdbl (qjns T f σ k).2 f t k) l = _
          rw [qd_F (by omega)]
          exact p5 l hl
        · intro l hl hl2
          show qW (qdbl (qjns T f σ k).2 f t k) l = _
          rw [qd_W (by omega) (by omega) (by omega)]
          exact p6 l (by omega) hl2
        · intro t' et
          cases et
          refine ⟨by dsimp only; omega, qd_WN t1 kN, Or.inr (by omega), ?_, ?_⟩
          · obtain ⟨k', k1, g, k2, k3⟩ := t4
            exact ⟨k', k1, g, k2, qd_FN.mpr (Or.inl k3)⟩
          · intro l hl hTl g hg
            by_cases h : l = k
            · subst h
              refine qd_FN.mpr (Or.inr ?_)
              rw [p5 l u1]; exact hg
            · exact qd_FN.mpr (Or.inl (t5 l (by omega) hTl g hg))
/-- what holds behind it -/
theorem qgo_P (hz : Sz w n ld) (hdn : ∀ f, ld f = true → Dn ht (nbr w n ld f) f (dn f)) (hN : qN σ < 1000) (hI : qInv w n ld dn σ U) (hU : ∀ g, U g = true ↔ ld g = true ∧ lw ht g f = true) (hT : qTs w n ld σ f T) (hb : qbs w n ld σ f b) (hlf : ld f = true) : qInv w n ld dn (qgo b T σ f) (quf U f) ∧ qN (qgo b T σ f) ≤ 35 := by
  have hf : f < n := hz.2.2.2.2 f hlf
  have hUf : U f = false := by
    cases c : U f with
    | false => rfl
    | true => exact absurd ((hU f).mp c).2 lw_irr
  have hd := hdn f hlf
  have nd3 : ∀ k, k < 4 → ∀ g, nbr w n ld f k = some g → U g = true → ¬ dn f = -3 := by
    intro k hk g hg hu e
    rcases hd with ⟨e2, -⟩ | ⟨hb, ⟨-, hlw⟩ | ⟨a, e2, ⟨k2, hk2, hn2⟩, h5⟩⟩
    · rw [e] at e2; exact absurd e2 (by decide)
    · exact lw_asym ((hU g).mp hu).2 (hlw k hk g hg)
    · rw [e] at e2
      exact nI_n3 (by have := hz.2.2.2.2 a (nbr_g hn2).2; have := hz.2.2.1; omega) e2.symm
  have main : qInv w n ld dn (qgo b T σ f) (quf U f) ∧ qN (qgo b T σ f) < 1000 := by
    unfold qgo
    cases cb : b with
    | true =>
      rw [if_pos rfl]
      obtain ⟨p1, p2, p3, p4, p5, p6, p7, p8⟩ := qspls_P hN hI hT hf hlf (qN σ) (Nat.le_refl _)
      refine ⟨qe_Inv hz p1 hUf hlf ?_ ?_, by show qN (qspls T f σ (qN σ)) < 1000; omega⟩
      · rcases hb.mp cb with q | ⟨k, hk, g, hg, hs⟩
        · intro e
          rcases hd with ⟨e2, -⟩ | ⟨hb, -⟩
          · rw [e] at e2; exact absurd e2 (by decide)
          · exact hb q
        · exact nd3 k hk g hg (hI.1.2.1 g hs)
      · intro t ht' wt k hk g hg hF
        obtain ⟨t1, t2⟩ := p6 t (by omega) wt
        rw [p3] at hF
        have := (hT t).mpr ⟨by omega, t2, k, hk, g, hg, hF⟩
        rw [t1] at this; cases this
    | false =>
      rw [if_neg (by decide)]
      have nb : ¬ (bsea (nbr w n ld f) ∨ ∃ k, k < 4 ∧ ∃ g, nbr w n ld f k = some g ∧ qS σ g = true) := fun h => by rw [hb.mpr h] at cb; cases cb
      have nb1 : ¬ bsea (nbr w n ld f) := fun h => nb (Or.inl h)
      have nn : ∀ k, k < 4 → nbr w n ld f k ≠ none := fun k hk e => nb1 ⟨k, hk, e⟩
      obtain ⟨p1, p2, p3, p4, p5, p6, p7, p8⟩ := qjns_P (f := f) hz hdn hN hI hT hf hlf (qN σ) (Nat.le_refl _)
      have und : ∀ k, k < 4 → ∀ g, nbr w n ld f k = some g → U g = true → ∃ l, l < qN σ ∧ T l = true ∧ qF σ l g = true := by
        intro k hk g hg hu
        rcases hI.1.2.2.2.1 g hu with q | ⟨l, q1, q2, q3⟩
        · exact absurd (Or.inr ⟨k, hk, g, hg, q⟩) nb
        · exact ⟨l, q1, (hT l).mpr ⟨q1, q2, k, hk, g, hg, q3⟩, q3⟩
      cases e : (qjns T f σ (qN σ)).1 with
      | none =>
        dsimp only
        have hno : ∀ k, k < 4 → ∀ g, nbr w n ld f k = some g → U g = false := by
          intro k hk g hg
          cases c : U g with
          | false => rfl
          | true =>
            obtain ⟨l, l1, l2, -⟩ := und k hk g hg c
            rw [(p7 e).2 l l1] at l2; cases l2
        refine ⟨qg_Inv hN hz hI hUf hlf ?_ nn hno, by rw [qg_N]; have := q_35 hz hdn hN hI; omega⟩
        rcases hd with ⟨-, e2⟩ | ⟨-, ⟨e2, -⟩ | ⟨a, e2, ⟨k, hk, hn⟩, h5, -⟩⟩
        · exact absurd e2 nb1
        · exact e2
        · have := hno k hk a hn
          rw [(hU a).mpr ⟨(nbr_g hn).2, h5⟩] at this; cases this
      | some t =>
        dsimp only
        obtain ⟨t1, t2, t3, t4, t5⟩ := p8 t e
        have hun : ∀ k, k < 4 → ∀ g, nbr w n ld f k = some g → U g = true → qF (qjns T f σ (qN σ)).2 t g = true := by
          intro k hk g hg hu
          obtain ⟨l, l1, l2, l3⟩ := und k hk g hg hu
          exact t5 l l1 l2 g l3
        refine ⟨qf_Inv (by omega) hz p1 hUf hlf t1 t2 ?_ ?_ ?_ nn hun, by show qN (qjns T f σ (qN σ)).2 < 1000; omega⟩
        · obtain ⟨k, hk, g, hg, hF⟩ := t4
          exact nd3 k hk g hg (p1.1.1 t t1 g hF)
        · intro e2
          rcases hd with ⟨-, q⟩ | ⟨-, ⟨q, -⟩ | ⟨a, q, ⟨k, hk, hn⟩, -⟩⟩
          · exact nb1 q
          · rw [e2] at q; exact absurd q (by decide)
          · rw [e2] at q
            exact nI_n5 (by have := hz.2.2.2.2 a (nbr_g hn).2; have := hz.2.2.1; omega) q.symm
        · intro a ha e2
          rcases hd with ⟨q, -⟩ | ⟨-, ⟨q, -⟩ | ⟨a', q, ⟨k, hk, hn⟩, h5, -⟩⟩
          · rw [e2] at q; exact absurd q (nI_n5 (by have := hz.2.2.1; omega))
          · rw [e2] at q; exact absurd q (nI_n3 (by have := hz.2.2.1; omega))
          · have hl' := (nbr_g hn).2
            have := hz.2.2.2.2 a' hl'
            have := hz.2.2.1
            rw [e2] at q
            have := nI_inj (by omega) (by omega) q
            subst this
            exact hun k hk a hn ((hU a).mpr ⟨hl', h5⟩)
  exact ⟨main.1, q_35 hz hdn main.2 main.1⟩
end UNDER
