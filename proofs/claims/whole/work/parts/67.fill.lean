/-! ===== fills ===== -/
section FILL
variable {w n : Nat} {ld : Nat → Bool} {ht : Nat → Int32}
/-- a field would be told v or less from what its neighbours have -/
def Fle (ht : Nat → Int32) (nb : Nat → Option Nat) (φ : Nat → Int) (f : Nat) (v : Int) : Prop := (ht f).toInt ≤ v ∧ ∃ k, k < 4 ∧ (nb k = none ∨ ∃ g, nb k = some g ∧ φ g ≤ v)
def Clo (w n : Nat) (ld : Nat → Bool) (ht : Nat → Int32) (φ : Nat → Int) (v : Int) : Prop := ∀ f, ld f = true → Fle ht (nbr w n ld f) φ f v → φ f ≤ v
/-- a set that is closed at v -/
def CloS (w n : Nat) (ld : Nat → Bool) (ht : Nat → Int32) (A : Nat → Prop) (v : Int) : Prop := ∀ f, ld f = true → (ht f).toInt ≤ v → (∃ k, k < 4 ∧ (nbr w n ld f k = none ∨ ∃ g, nbr w n ld f k = some g ∧ A g)) → A f
/-- nothing is below what must be -/
def Lst (w n : Nat) (ld : Nat → Bool) (ht : Nat → Int32) (φ : Nat → Int) : Prop := ∀ v : Int, v ≤ 1000000 → ∀ A : Nat → Prop, CloS w n ld ht A v → ∀ f, ld f = true → φ f ≤ v → A f
theorem Clo_S {φ : Nat → Int} {v : Int} (h : Clo w n ld ht φ v) : CloS w n ld ht (fun f => φ f ≤ v) v := fun f hf h1 h2 => h f hf ⟨h1, h2⟩
def Hts (n : Nat) (ld : Nat → Bool) (ht : Nat → Int32) : Prop := ∀ f, ld f = true → -1000000 ≤ (ht f).toInt ∧ (ht f).toInt ≤ 1000000
/-- every field has a way to the sea -/
theorem all_reach (hz : Sz w n ld) (hh : Hts n ld ht) {φ : Nat → Int} (h : Clo w n ld ht φ 1000000) : ∀ f, ld f = true → φ f ≤ 1000000 := by
  intro f
  induction f using Nat.strongRecOn with
  | ind f ih =>
    intro hf
    refine h f hf ⟨(hh f hf).2, 0, by decide, ?_⟩
    have hw := hz.1
    cases e : nbr w n ld f 0 with
    | none => exact Or.inl rfl
    | some g =>
      refine Or.inr ⟨g, rfl, ?_⟩
      obtain ⟨h1, h2⟩ := nbr_g e
      unfold gnb at h1
      rw [if_pos rfl] at h1
      by_cases c : w ≤ f
      · rw [if_pos c] at h1
        cases h1
        exact ih (f - w) (by omega) h2
      · rw [if_neg c] at h1
        cases h1
theorem fill_one (hz : Sz w n ld) (hh : Hts n ld ht) {φ ψ : Nat → Int} (h1 : ∀ v : Int, v ≤ 1000000 → Clo w n ld ht φ v) (h2 : Lst w n ld ht φ) (g1 : ∀ v : Int, v ≤ 1000000 → Clo w n ld ht ψ v) (g2 : Lst w n ld ht ψ) : ∀ f, ld f = true → φ f = ψ f := by
  intro f hf
  have a1 := all_reach hz hh (h1 1000000 (by omega)) f hf
  have a2 := all_reach hz hh (g1 1000000 (by omega)) f hf
  have b1 : ψ f ≤ φ f := h2 (φ f) a1 (fun g => ψ g ≤ φ f) (Clo_S (g1 _ a1)) f hf (by omega)
  have b2 : φ f ≤ ψ f := g2 (ψ f) a2 (fun g => φ g ≤ ψ f) (Clo_S (h1 _ a2)) f hf (by omega)
  omega
/-- one pass from φ to φ' -/
def Pas (w n : Nat) (ld : Nat → Bool) (ht : Nat → Int32) (φ φ' : Nat → Int) (mv : Bool) : Prop :=
  (∀ f, ld f = true → φ' f ≤ φ f) ∧ (∀ f, ld f = true → ∀ v : Int, v ≤ 1000000 → Fle ht (nbr w n ld f) φ f v → φ' f ≤ v) ∧ (∀ v : Int, v ≤ 1000000 → ∀ A : Nat → Prop, CloS w n ld ht A v → (∀ f, ld f = true → φ f ≤ v → A f) → ∀ f, ld f = true → φ' f ≤ v → A f) ∧ (mv = false → ∀ v : Int, v ≤ 1000000 → Clo w n ld ht φ' v)
theorem Pas_Lst {φ φ' : Nat → Int} {mv : Bool} (h : Pas w n ld ht φ φ' mv) (hl : Lst w n ld ht φ) : Lst w n ld ht φ' := fun v hv A hA => h.2.2.1 v hv A hA (hl v hv A hA)
/-- how far the passes have come -/
def Cnt (w n : Nat) (ld : Nat → Bool) (ht : Nat → Int32) (φ : Nat → Int) (k : Nat) : Prop := ∀ v : Int, v ≤ 1000000 → Clo w n ld ht φ v ∨ k ≤ fb_ct (fun f => ld f && decide (φ f ≤ v)) n
theorem Cnt_0 {φ : Nat → Int} : Cnt w n ld ht φ 0 := fun _ _ => Or.inr (Nat.zero_le _)
theorem Fle_mono {φ φ' : Nat → Int} {f : Nat} {v : Int} (h : ∀ k g, nbr w n ld f k = some g → φ g ≤ v → φ' g ≤ v) (hf : Fle ht (nbr w n ld f) φ f v) : Fle ht (nbr w n ld f) φ' f v := by
  obtain ⟨h1, k, hk, h2⟩ := hf
  refine ⟨h1, k, hk, ?_⟩
  rcases h2 with e | ⟨g, e1, e2⟩
  · exact Or.inl e
  · exact Or.inr ⟨g, e1, h k g e1 e2⟩
theorem Cnt_s (hld : ∀ g, ld g = true → g < n) {φ φ' : Nat → Int} {mv : Bool} {k : Nat} (h : Pas w n ld ht φ φ' mv) (hc : Cnt w n ld ht φ k) : Cnt w n ld ht φ' (k + 1) := by
  intro v hv
  by_cases c : Clo w n ld ht φ v
  · refine Or.inl (fun f hf hF => ?_)
    have back : ∀ g, ld g = true → φ' g ≤ v → φ g ≤ v := h.2.2.1 v hv (fun f => φ f ≤ v) (Clo_S c) (fun _ _ q => q)
    have := c f hf (Fle_mono (fun k g e q => back g (nbr_g e).2 q) hF)
    have := h.1 f hf
    omega
  · right
    have hk := (hc v hv).resolve_left c
    have hex : ∃ f, ld f = true ∧ Fle ht (nbr w n ld f) φ f v ∧ ¬ φ f ≤ v := by
      refine Classical.byContradiction (fun hn => c (fun f hf hF => Classical.byContradiction (fun q => hn ⟨f, hf, hF, q⟩)))
    obtain ⟨f, f1, f2, f3⟩ := hex
    have := ct_lt (p := fun f => ld f && decide (φ f ≤ v)) (q := fun f => ld f && decide (φ' f ≤ v)) (n := n) (a := f) (fun g _ hg => by
      simp only [Bool.and_eq_true, decide_eq_true_eq] at hg ⊢
      have := h.1 g hg.1
      exact ⟨hg.1, by omega⟩) (hld f f1) (by simp [f3]) (by
      have := h.2.1 f f1 v hv f2
      simp [f1, this])
    omega
theorem Cnt_all {φ : Nat → Int} (h : Cnt w n ld ht φ (n + 1)) : ∀ v : Int, v ≤ 1000000 → Clo w n ld ht φ v := by
  intro v hv
  refine (h v hv).resolve_right (fun q => ?_)
  have := fb_ct_le (fun f => ld f && decide (φ f ≤ v)) n
  omega
/-- within a pass: the fields of T have been seen -/
def Mid (w n : Nat) (ld : Nat → Bool) (ht : Nat → Int32) (φ θ : Nat → Int) (T : Nat → Prop) (mv : Bool) : Prop :=
  (∀ f, ld f = true → θ f ≤ φ f) ∧ (∀ f, ld f = true → T f → ∀ v : Int, v ≤ 1000000 → Fle ht (nbr w n ld f) φ f v → θ f ≤ v) ∧ (∀ v : Int, v ≤ 1000000 → ∀ A : Nat → Prop, CloS w n ld ht A v → (∀ f, ld f = true → φ f ≤ v → A f) → ∀ f, ld f = true → θ f ≤ v → A f) ∧ (mv = false → (∀ f, ld f = true → θ f = φ f))
theorem Mid_0 {φ : Nat → Int} : Mid w n ld ht φ φ (fun _ => False) false := ⟨fun _ _ => Int.le_refl _, fun _ _ h => absurd h id, fun _ _ _ _ h => h, fun _ _ _ => rfl⟩
theorem Mid_end {φ θ : Nat → Int} {T : Nat → Prop} {mv : Bool} (h : Mid w n ld ht φ θ T mv) (hT : ∀ f, ld f = true → T f) : Pas w n ld ht φ θ mv := by
  refine ⟨h.1, fun f hf => h.2.1 f hf (hT f hf), h.2.2.1, fun hm v hv f hf hF => ?_⟩
  have e := h.2.2.2 hm
  exact h.2.1 f hf (hT f hf) v hv (Fle_mono (fun k g eg q => by rw [← e g (nbr_g eg).2]; exact q) hF)
/-- a field f gets the lesser of what it has and b -/
theorem Mid_s {φ θ : Nat → Int} {T : Nat → Prop} {mv : Bool} (h : Mid w n ld ht φ θ T mv) {f : Nat} (hf : ld f = true) {b : Int} (hb : ∀ v : Int, v ≤ 1000000 → (b ≤ v ↔ Fle ht (nbr w n ld f) θ f v)) (θ' : Nat → Int) (h1 : θ' f = if b < θ f then b else θ f) (h2 : ∀ g, ld g = true → g ≠ f → θ' g = θ g) : Mid w n ld ht φ θ' (fun g => T g ∨ g = f) (mv || decide (b < θ f)) := by
  obtain ⟨m1, m2, m3, m4⟩ := h
  have le : ∀ g, ld g = true → θ' g ≤ θ g := by
    intro g hg
    by_cases e : g = f
    · rw [e, h1]
      by_cases c : b < θ f
      · rw [if_pos c]; omega
      · rw [if_neg c]; omega
    · rw [h2 g hg e]; omega
  refine ⟨fun g hg => by have := m1 g hg; have := le g hg; omega, fun g hg hT v hv hF => ?_, fun v hv A hA hin g hg hle => ?_, fun hm => ?_⟩
  · by_cases e : g = f
    · subst e
      have hbv := (hb v hv).mpr (Fle_mono (fun k x ex q => by have := m1 x (nbr_g ex).2; omega) hF)
      rw [h1]
      by_cases c : b < θ g
      · rw [if_pos c]; exact hbv
      · rw [if_neg c]; omega
    · rw [h2 g hg e]
      exact m2 g hg (hT.resolve_right e) v hv hF
  · by_cases e : g = f
    · subst e
      rw [h1] at hle
      by_cases c : b < θ g
      · rw [if_pos c] at hle
        obtain ⟨q1, k, q2, q3⟩ := (hb v hv).mp hle
        refine hA g hg q1 ⟨k, q2, ?_⟩
        rcases q3 with q3 | ⟨x, q3, q4⟩
        · exact Or.inl q3
        · exact Or.inr ⟨x, q3, m3 v hv A hA hin x (nbr_g q3).2 q4⟩
      · rw [if_neg c] at hle
        exact m3 v hv A hA hin g hg hle
    · rw [h2 g hg e] at hle
      exact m3 v hv A hA hin g hg hle
  · have hm1 : mv = false := by cases mv <;> simp_all
    have hm2 : ¬ b < θ f := by intro c; simp [c] at hm
    intro g hg
    by_cases e : g = f
    · subst e
      rw [h1, if_neg hm2]
      exact m4 hm1 g hg
    · rw [h2 g hg e]
      exact m4 hm1 g hg
end FILL
section FILLC
variable {w n : Nat} {ld : Nat → Bool} {ht : Nat → Int32} {μ : Mem}
abbrev fiC (μ : Mem) : Nat → Int := fun f => (μ.1 22 f).toInt
theorem RE_least (hz : Sz w n ld) (h : ReC w n ld ht μ) (hb : NbC w n ld μ) {f : Nat} (hf : f < n) : ∃ x, f_RE_leastFillBeside μ (nI f) = some x ∧ ∀ v : Int, v ≤ 1000000 → (x.toInt ≤ v ↔ ∃ k, k < 4 ∧ ((nbr w n ld f k = none ∧ -1000000 ≤ v) ∨ ∃ g, nbr w n ld f k = some g ∧ fiC μ g ≤ v)) := by
  have hn := hz.2.2.1
  unfold f_RE_leastFillBeside
  obtain ⟨x, h1, h2⟩ := lp_0 (fun m a k => f_RE_leastFillBeside_L5 μ (nI f) m a (nI k)) (fun K a => ∀ v : Int, v ≤ 1000000 → (a.toInt ≤ v ↔ ∃ k, k < K ∧ ((nbr w n ld f k = none ∧ -1000000 ≤ v) ∨ ∃ g, nbr w n ld f k = some g ∧ fiC μ g ≤ v))) (fun a => ∀ v : Int, v ≤ 1000000 → (a.toInt ≤ v ↔ ∃ k, k < 4 ∧ ((nbr w n ld f k = none ∧ -1000000 ≤ v) ∨ ∃ g, nbr w n ld f k = some g ∧ fiC μ g ≤ v))) 4 1000001 (by decide)
    (fun v hv => by
      have e : (1000001 : Int32).toInt = 1000001 := rfl
      rw [e]
      exact ⟨fun q => absurd q (by omega), fun ⟨k, hk, _⟩ => absurd hk (Nat.not_lt_zero k)⟩)
    (fun m a g => ⟨a, by show f_RE_leastFillBeside_L5 μ (nI f) (m + 1) a (nI 4) = _; rw [f_RE_leastFillBeside_L5.eq_2, if_pos (by decide)], g⟩)
    (fun m a k hk g => by
      show ∃ a', _ ∧ f_RE_leastFillBeside_L5 μ (nI f) (m + 1) a (nI k) = f_RE_leastFillBeside_L5 μ (nI f) m a' (nI (k + 1))
      rw [f_RE_leastFillBeside_L5.eq_2, if_neg (nge 4 (b := 4) rfl hk (by decide)), RE_beside hz h hb hf hk, nI_1]
      simp only [Option.bind_some]
      have fin : ∀ y : Int32, (∀ v : Int, v ≤ 1000000 → (y.toInt ≤ v ↔ ((nbr w n ld f k = none ∧ -1000000 ≤ v) ∨ ∃ g, nbr w n ld f k = some g ∧ fiC μ g ≤ v))) → ∀ v : Int, v ≤ 1000000 → ((if y < a then y else a).toInt ≤ v ↔ ∃ j, j < k + 1 ∧ ((nbr w n ld f j = none ∧ -1000000 ≤ v) ∨ ∃ g, nbr w n ld f j = some g ∧ fiC μ g ≤ v)) := by
        intro y hy v hv
        have e1 : (if y < a then y else a).toInt ≤ v ↔ (y.toInt ≤ v ∨ a.toInt ≤ v) := by
          by_cases c : y < a
          · rw [if_pos c]; rw [fa_lt] at c; omega
          · rw [if_neg c]; rw [fa_lt] at c; omega
        rw [e1, hy v hv, g v hv]
        constructor
        · rintro (q | ⟨j, j1, j2⟩)
          · exact ⟨k, by omega, q⟩
          · exact ⟨j, by omega, j2⟩
        · rintro ⟨j, j1, j2⟩
          by_cases e : j = k
          · subst e; exact Or.inl j2
          · exact Or.inr ⟨j, by omega, j2⟩
      cases e : nbr w n ld f k with
      | none =>
        rw [enc_none, if_pos rfl]
        simp only [Option.bind_some]
        refine ⟨_, fin (-1000000) (fun v hv => ?_), rfl⟩
        rw [e]
        have : (-1000000 : Int32).toInt = -1000000 := rfl
        rw [this]
        exact ⟨fun q => Or.inl ⟨rfl, q⟩, fun q => q.elim (fun q => q.2) (fun ⟨_, q, _⟩ => by cases q)⟩
      | some x =>
        have hx := (nbr_ne hz hf e).2.1
        rw [enc_some, if_neg (nI_n5 (by omega)), G_n (by omega) (by decide), cl (by omega)]
        simp only [Option.bind_some]
        refine ⟨_, fin (μ.1 22 x) (fun v hv => ?_), rfl⟩
        rw [e]
        exact ⟨fun q => Or.inr ⟨x, rfl, q⟩, fun q => q.elim (fun q => by cases q.1) (fun ⟨y, q1, q2⟩ => by cases q1; exact q2)⟩)
  refine ⟨x, ?_, h2⟩
  rw [show f_RE_leastFillBeside_L5 μ (nI f) FU 1000001 0 = some x from h1]
  rfl
/-- a pass of the class -/
theorem RE_lowerFills (hz : Sz w n ld) (h : ReC w n ld ht μ) (hb : NbC w n ld μ) (hh : Hts n ld ht) {m : Nat} {od : Nat → Nat} (hm : m ≤ n) (ho : OrC n ld ht μ m od) : ∃ (x : Int32) (a : Mem) (mv : Bool), f_RE_lowerFills μ = some (x, a) ∧ x = (if mv then 1 else 0) ∧ Pas w n ld ht (fiC μ) (fiC a) mv ∧ (∀ q, q ≠ 22 → a.1 q = μ.1 q) ∧ a.2 = μ.2 := by
  have hn := hz.2.2.1
  obtain ⟨o1, o2, o3, o4⟩ := id ho
  unfold f_RE_lowerFills
  obtain ⟨v, h1, mv, h2, h3, h4, h5⟩ := lp_0 (fun i (a : Int32 × Mem) k => f_RE_lowerFills_L4 i a.2 a.1 (nI k)) (fun k a => ∃ mv : Bool, a.1 = (if mv then 1 else 0) ∧ Mid w n ld ht (fiC μ) (fiC a.2) (fun f => ∃ j, j < k ∧ od j = f) mv ∧ (∀ q, q ≠ 22 → a.2.1 q = μ.1 q) ∧ a.2.2 = μ.2) (fun a => ∃ mv : Bool, a.1 = (if mv then 1 else 0) ∧ Pas w n ld ht (fiC μ) (fiC a.2) mv ∧ (∀ q, q ≠ 22 → a.2.1 q = μ.1 q) ∧ a.2.2 = μ.2) m (0, μ) (by omega)
    ⟨false, rfl, ⟨fun _ _ => Int.le_refl _, fun _ _ ⟨j, hj, _⟩ => absurd hj (Nat.not_lt_zero j), fun _ _ _ _ q => q, fun _ _ _ => rfl⟩, fun _ _ => rfl, rfl⟩
    (fun i a g => by
      obtain ⟨mv, g1, g2, g3, g4⟩ := g
      refine ⟨(a.1, a.2), ?_, mv, g1, Mid_end g2 (fun f hf => o4 f hf), g3, g4⟩
      show f_RE_lowerFills_L4 (i + 1) a.2 a.1 (nI m) = _
      rw [f_RE_lowerFills_L4.eq_2, g3 18 (by decide), o1, if_pos (Int32.le_refl _)])
    (fun i a k hk g => by
      obtain ⟨y, b⟩ := a
      obtain ⟨mv, g1, g2, g3, g4⟩ := g
      dsimp only at g1 g2 g3 g4
      have rb : ReC w n ld ht b := h.of (by rw [g3 18 (by decide)]) (by rw [g3 18 (by decide)]) (by rw [g4]) (g3 19 (by decide))
      have nbb : NbC w n ld b := fun f hf j hj => by rw [g3 24 (by decide)]; exact hb f hf j hj
      obtain ⟨p1, p2, p3⟩ := o2 k hk
      obtain ⟨x, q1, q2⟩ := RE_least hz rb nbb p2
      show ∃ a' : Int32 × Mem, _ ∧ f_RE_lowerFills_L4 (i + 1) b y (nI k) = f_RE_lowerFills_L4 i a'.2 a'.1 (nI (k + 1))
      rw [f_RE_lowerFills_L4.eq_2, g3 18 (by decide), o1, if_neg (nI_ge hk (by omega)), G_n (by omega) (by decide), cl (by omega), g3 23 (by decide), p1, q1, nI_1]
      simp only [Option.bind_some, G_n (show od k < 64 by omega) (show 64 < 2147483648 by decide)]
      rw [cl (by omega), rb.2.2.2 _ p2]
      have hB : ∀ v : Int, v ≤ 1000000 → ((if ht (od k) < x then x else ht (od k)).toInt ≤ v ↔ Fle ht (nbr w n ld (od k)) (fiC b) (od k) v) := by
        intro v hv
        have e1 : (if ht (od k) < x then x else ht (od k)).toInt ≤ v ↔ ((ht (od k)).toInt ≤ v ∧ x.toInt ≤ v) := by
          by_cases c : ht (od k) < x
          · rw [if_pos c]; rw [fa_lt] at c; omega
          · rw [if_neg c]; rw [fa_lt] at c; omega
        rw [e1, q2 v hv]
        have hlow := (hh (od k) p3).1
        constructor
        · rintro ⟨a1, j, j1, j2⟩
          refine ⟨a1, j, j1, ?_⟩
          rcases j2 with j2 | j2
          · exact Or.inl j2.1
          · exact Or.inr j2
        · rintro ⟨a1, j, j1, j2⟩
          refine ⟨a1, j, j1, ?_⟩
          rcases j2 with j2 | j2
          · exact Or.inl ⟨j2, by omega⟩
          · exact Or.inr j2
      generalize (if ht (od k) < x then x else ht (od k)) = B at hB ⊢
      have hset : ∀ θ' : Nat → Int, ∀ mv', Mid w n ld ht (fiC μ) θ' (fun g => (∃ j, j < k ∧ od j = g) ∨ g = od k) mv' → Mid w n ld ht (fiC μ) θ' (fun g => ∃ j, j < k + 1 ∧ od j = g) mv' := by
        intro θ' mv' hM
        refine ⟨hM.1, fun f hf hT => hM.2.1 f hf ?_, hM.2.2.1, hM.2.2.2⟩
        obtain ⟨j, j1, j2⟩ := hT
        by_cases e : j = k
        · subst e; exact Or.inr j2.symm
        · exact Or.inl ⟨j, by omega, j2⟩
      by_cases c : b.1 22 (od k) ≤ B
      · rw [if_pos c]
        simp only [Option.bind_some]
        have cn : ¬ B.toInt < fiC b (od k) := by rw [fa_le] at c; show ¬ B.toInt < (b.1 22 (od k)).toInt; omega
        have := Mid_s g2 p3 hB (fiC b) (by rw [if_neg cn]) (fun _ _ _ => rfl)
        rw [decide_eq_false cn, Bool.or_false] at this
        exact ⟨(y, b), ⟨mv, g1, hset _ _ this, g3, g4⟩, rfl⟩
      · rw [if_neg c]
        simp only [Option.bind_some]
        have cn : B.toInt < fiC b (od k) := by rw [fa_le] at c; show B.toInt < (b.1 22 (od k)).toInt; omega
        have := Mid_s g2 p3 hB (fiC (sI b 22 (od k) B)) (by
          rw [if_pos cn]
          show ((sI b 22 (od k) B).1 22 (od k)).toInt = _
          rw [sI_at]) (fun g _ e => by
          show ((sI b 22 (od k) B).1 22 g).toInt = _
          rw [sI_off e])
        rw [decide_eq_true cn, Bool.or_true] at this
        refine ⟨(1, sI b 22 (od k) B), ⟨true, rfl, hset _ _ this, fun q hq => ?_, g4⟩, rfl⟩
        rw [sI_ne hq]
        exact g3 q hq)
  refine ⟨v.1, v.2, mv, ?_, h2, h3, h4, h5⟩
  rw [show f_RE_lowerFills_L4 FU μ 0 0 = some v from h1]
  simp only [Option.bind_some]
  rw [h2]
  cases mv
  · exact Bg0
  · exact Bg1
theorem RE_findFills (hz : Sz w n ld) (h : ReC w n ld ht μ) (hb : NbC w n ld μ) (hh : Hts n ld ht) {m : Nat} {od : Nat → Nat} (hm : m ≤ n) (ho : OrC n ld ht μ m od) : ∃ a : Mem, f_RE_findFills μ = some a ∧ (∀ v : Int, v ≤ 1000000 → Clo w n ld ht (fiC a) v) ∧ Lst w n ld ht (fiC a) ∧ (∀ q, q ≠ 22 → a.1 q = μ.1 q) ∧ a.2 = μ.2 := by
  have hn := hz.2.2.1
  obtain ⟨o1, o2, o3, o4⟩ := id ho
  unfold f_RE_findFills
  obtain ⟨v, h1, h2, h3, h4⟩ := lp_0 (fun i a k => f_RE_findFills_L2 i a (nI k)) (fun k a => (∀ j, j < k → a.1 22 (od j) = 1000001) ∧ (∀ q, q ≠ 22 → a.1 q = μ.1 q) ∧ a.2 = μ.2) (fun a => (∀ j, j < m → a.1 22 (od j) = 1000001) ∧ (∀ q, q ≠ 22 → a.1 q = μ.1 q) ∧ a.2 = μ.2) m μ (by omega)
    ⟨fun j hj => absurd hj (Nat.not_lt_zero j), fun _ _ => rfl, rfl⟩
    (fun i a g => ⟨a, by
      show f_RE_findFills_L2 (i + 1) a (nI m) = _
      rw [f_RE_findFills_L2.eq_2, g.2.1 18 (by decide), o1, if_pos (Int32.le_refl _)], g⟩)
    (fun i a k hk g => by
      obtain ⟨p1, p2, p3⟩ := o2 k hk
      refine ⟨sI a 22 (od k) 1000001, ⟨fun j hj => ?_, fun q hq => by rw [sI_ne hq]; exact g.2.1 q hq, g.2.2⟩, ?_⟩
      · by_cases e : od j = od k
        · rw [e, sI_at]
        · rw [sI_off e]
          refine g.1 j ?_
          have : j ≠ k := fun q => e (by rw [q])
          omega
      · show f_RE_findFills_L2 (i + 1) a (nI k) = f_RE_findFills_L2 i _ (nI (k + 1))
        rw [f_RE_findFills_L2.eq_2, g.2.1 18 (by decide), o1, if_neg (nI_ge hk (by omega)), G_n (by omega) (by decide), cl (by omega), g.2.1 23 (by decide), p1, G_n (by omega) (by decide), cl (by omega), nI_1])
  rw [show f_RE_findFills_L2 FU μ 0 = some v from h1]
  simp only [Option.bind_some]
  have l0 : Lst w n ld ht (fiC v) := by
    intro x hx A hA f hf hle
    obtain ⟨k, k1, k2⟩ := o4 f hf
    have e : (1000001 : Int32).toInt = 1000001 := rfl
    have : fiC v f = 1000001 := by show (v.1 22 f).toInt = _; rw [← k2, h2 k k1, e]
    omega
  have good : ∀ b : Mem, (∀ q, q ≠ 22 → b.1 q = μ.1 q) → b.2 = μ.2 → ReC w n ld ht b ∧ NbC w n ld b ∧ OrC n ld ht b m od := by
    intro b e1 e2
    refine ⟨h.of (by rw [e1 18 (by decide)]) (by rw [e1 18 (by decide)]) (by rw [e2]) (e1 19 (by decide)), fun f hf j hj => by rw [e1 24 (by decide)]; exact hb f hf j hj, by rw [e1 18 (by decide)]; exact o1, fun k hk => by rw [e1 23 (by decide)]; exact o2 k hk, o3, o4⟩
  -- the passes
  have key : ∀ d k fuel (b : Mem) (mv : Bool), k + d = n + 1 → d < fuel → (∀ q, q ≠ 22 → b.1 q = μ.1 q) → b.2 = μ.2 → Lst w n ld ht (fiC b) → Cnt w n ld ht (fiC b) k → (mv = false → ∀ v : Int, v ≤ 1000000 → Clo w n ld ht (fiC b) v) → ∃ a, f_RE_findFills_L33 fuel b (if mv then 1 else 0) (nI k) = some a ∧ (∀ v : Int, v ≤ 1000000 → Clo w n ld ht (fiC a) v) ∧ Lst w n ld ht (fiC a) ∧ (∀ q, q ≠ 22 → a.1 q = μ.1 q) ∧ a.2 = μ.2 := by
    intro d
    induction d with
    | zero =>
      intro k fuel b mv hk hfu e1 e2 e3 e4 e5
      obtain ⟨fuel, rfl⟩ : ∃ x, fuel = x + 1 := ⟨fuel - 1, by omega⟩
      have hk : k = n + 1 := by omega
      subst hk
      refine ⟨b, ?_, Cnt_all e4, e3, e1, e2⟩
      rw [f_RE_findFills_L33.eq_2, (good b e1 e2).1.2.1, if_pos (nI_lt (by omega) (by omega))]
    | succ d ih =>
      intro k fuel b mv hk hfu e1 e2 e3 e4 e5
      obtain ⟨fuel, rfl⟩ : ∃ x, fuel = x + 1 := ⟨fuel - 1, by omega⟩
      obtain ⟨r1, r2, r3⟩ := good b e1 e2
      rw [f_RE_findFills_L33.eq_2, r1.2.1, if_neg (nI_nlt (by omega) (by omega))]
      cases mv with
      | false =>
        refine ⟨b, ?_, e5 rfl, e3, e1, e2⟩
        rfl
      | true =>
        rw [if_neg (by decide)]
        obtain ⟨x, a, mv, p1, p2, p3, p4, p5⟩ := RE_lowerFills hz r1 r2 hh hm r3
        rw [p1]
        simp only [Option.bind_some]
        rw [p2, nI_1]
        exact ih (k + 1) fuel a mv (by omega) (by omega) (fun q hq => by rw [p4 q hq]; exact e1 q hq) (by rw [p5]; exact e2) (Pas_Lst p3 e3) (Cnt_s hz.2.2.2.2 p3 e4) p3.2.2.2
  obtain ⟨a, q1, q2, q3, q4, q5⟩ := key (n + 1) 0 FU v true (by omega) (by unfold FU; omega) h3 h4 l0 Cnt_0 (fun q => by cases q)
  refine ⟨a, ?_, q2, q3, q4, q5⟩
  rw [show f_RE_findFills_L33 FU v 1 0 = some a from q1]
  rfl
end FILLC
