/-! ===== the ways down ===== -/
def bsea (nb : Nat → Option Nat) : Prop := ∃ k, k < 4 ∧ nb k = none
def encN : Option Nat → Int32
  | none => -3
  | some g => nI g
/-- the lowest of those at the first K sides that are in P -/
def LowR (ht : Nat → Int32) (P : Nat → Bool) (nb : Nat → Option Nat) (K : Nat) : Option Nat → Prop
  | none => ∀ k, k < K → ∀ g, nb k = some g → P g = false
  | some a => P a = true ∧ (∃ k, k < K ∧ nb k = some a) ∧ ∀ k, k < K → ∀ g, nb k = some g → P g = true → g = a ∨ lw ht a g = true
theorem LowR_one {ht : Nat → Int32} {P : Nat → Bool} {nb : Nat → Option Nat} {K : Nat} {r r' : Option Nat} (h : LowR ht P nb K r) (h' : LowR ht P nb K r') : r = r' := by
  cases r with
  | none =>
    cases r' with
    | none => rfl
    | some a =>
      obtain ⟨k, h1, h2⟩ := h'.2.1
      have := h k h1 a h2
      rw [h'.1] at this
      cases this
  | some a =>
    cases r' with
    | none =>
      obtain ⟨k, h1, h2⟩ := h.2.1
      have := h' k h1 a h2
      rw [h.1] at this
      cases this
    | some b =>
      obtain ⟨k, h1, h2⟩ := h.2.1
      obtain ⟨k', h3, h4⟩ := h'.2.1
      rcases h.2.2 k' h3 b h4 h'.1 with e | e
      · rw [e]
      · rcases h'.2.2 k h1 a h2 h.1 with e2 | e2
        · rw [e2]
        · exact absurd e2 (lw_asym e)
theorem LowR_skip {ht : Nat → Int32} {P : Nat → Bool} {nb : Nat → Option Nat} {K : Nat} {r : Option Nat} (h : LowR ht P nb K r) (hs : ∀ g, nb K = some g → P g = false) : LowR ht P nb (K + 1) r := by
  cases r with
  | none =>
    intro k hk g hg
    by_cases e : k = K
    · subst e; exact hs g hg
    · exact h k (by omega) g hg
  | some a =>
    obtain ⟨h1, ⟨k, h2, h3⟩, h4⟩ := h
    refine ⟨h1, ⟨k, by omega, h3⟩, fun j hj g hg hp => ?_⟩
    by_cases e : j = K
    · subst e
      rw [hs g hg] at hp
      cases hp
    · exact h4 j (by omega) g hg hp
theorem LowR_take {ht : Nat → Int32} {P : Nat → Bool} {nb : Nat → Option Nat} {K g : Nat} {r : Option Nat} (h : LowR ht P nb K r) (hg : nb K = some g) (hp : P g = true) (hb : ∀ a, r = some a → lw ht g a = true) : LowR ht P nb (K + 1) (some g) := by
  refine ⟨hp, ⟨K, by omega, hg⟩, fun j hj x hx hpx => ?_⟩
  by_cases e : j = K
  · subst e
    rw [hg] at hx
    cases hx
    exact Or.inl rfl
  · cases r with
    | none =>
      have := h j (by omega) x hx
      rw [hpx] at this
      cases this
    | some a =>
      rcases h.2.2 j (by omega) x hx hpx with e2 | e2
      · rw [e2]; exact Or.inr (hb a rfl)
      · exact Or.inr (lw_tr (hb a rfl) e2)
theorem LowR_keep {ht : Nat → Int32} {P : Nat → Bool} {nb : Nat → Option Nat} {K g a : Nat} (h : LowR ht P nb K (some a)) (hg : nb K = some g) (hb : ¬ lw ht g a = true) : LowR ht P nb (K + 1) (some a) := by
  obtain ⟨h1, ⟨k, h2, h3⟩, h4⟩ := h
  refine ⟨h1, ⟨k, by omega, h3⟩, fun j hj x hx hp => ?_⟩
  by_cases e : j = K
  · subst e
    rw [hg] at hx
    cases hx
    by_cases e2 : g = a
    · exact Or.inl e2
    · exact Or.inr ((lw_tot e2).resolve_left hb)
  · exact h4 j (by omega) x hx hp
/-- what DOWN of a field is -/
def Dn (ht : Nat → Int32) (nb : Nat → Option Nat) (f : Nat) (d : Int32) : Prop := (d = -5 ∧ bsea nb) ∨ (¬ bsea nb ∧ ((d = -3 ∧ ∀ k, k < 4 → ∀ g, nb k = some g → lw ht f g = true) ∨ ∃ a, d = nI a ∧ (∃ k, k < 4 ∧ nb k = some a) ∧ lw ht a f = true ∧ ∀ k, k < 4 → ∀ g, nb k = some g → g = a ∨ lw ht a g = true))
theorem Dn_one {ht : Nat → Int32} {nb : Nat → Option Nat} {f : Nat} {d d' : Int32} (h : Dn ht nb f d) (h' : Dn ht nb f d') : d = d' := by
  rcases h with ⟨e, hb⟩ | ⟨hb, h⟩
  · rcases h' with ⟨e', -⟩ | ⟨hb', -⟩
    · rw [e, e']
    · exact absurd hb hb'
  · rcases h' with ⟨-, hb'⟩ | ⟨-, h'⟩
    · exact absurd hb' hb
    · rcases h with ⟨e, h1⟩ | ⟨a, e, ⟨k, h1, h2⟩, h3, h4⟩
      · rcases h' with ⟨e', -⟩ | ⟨b, -, ⟨k, g1, g2⟩, g3, -⟩
        · rw [e, e']
        · exact absurd g3 (lw_asym (h1 k g1 b g2))
      · rcases h' with ⟨-, g1⟩ | ⟨b, e', ⟨k', g1, g2⟩, g3, g4⟩
        · exact absurd h3 (lw_asym (g1 k h1 a h2))
        · rw [e, e']
          rcases h4 k' g1 b g2 with q | q
          · rw [q]
          · rcases g4 k h1 a h2 with q2 | q2
            · rw [q2]
            · exact absurd q2 (lw_asym q)
section WAYS
variable {w n : Nat} {ld : Nat → Bool} {ht : Nat → Int32} {μ ν : Mem}
theorem RE_isBesideSea (hz : Sz w n ld) (h : ReC w n ld ht μ) (hb : NbC w n ld μ) {f : Nat} (hf : f < n) : (bsea (nbr w n ld f) ∧ f_RE_isBesideSea μ (nI f) = some 1) ∨ (¬ bsea (nbr w n ld f) ∧ f_RE_isBesideSea μ (nI f) = some 0) := by
  have hn := hz.2.2.1
  unfold f_RE_isBesideSea
  have step : ∀ m k, k < 4 → f_RE_isBesideSea_L2 μ (nI f) (fun _ => some 0) (m + 1) (nI k) = if nbr w n ld f k = none then some 1 else f_RE_isBesideSea_L2 μ (nI f) (fun _ => some 0) m (nI (k + 1)) := by
    intro m k hk
    rw [f_RE_isBesideSea_L2.eq_2, if_neg (nge 4 (b := 4) rfl hk (by decide)), RE_beside hz h hb hf hk, nI_1]
    simp only [Option.bind_some]
    cases e : nbr w n ld f k with
    | none => rw [enc_none, if_pos rfl, if_pos rfl]
    | some g =>
      have := (nbr_ne hz hf e).2.1
      rw [enc_some, if_neg (nI_n5 (by omega)), if_neg (by simp)]
  by_cases c : bsea (nbr w n ld f)
  · refine Or.inl ⟨c, ?_⟩
    obtain ⟨k0, hk0, e0⟩ := c
    exact lp_b0 (fun m (_ : Unit) k => f_RE_isBesideSea_L2 μ (nI f) (fun _ => some 0) m (nI k)) (fun k _ => k ≤ k0) (fun o => o = some 1) 4 () (by decide) (Nat.zero_le _)
      (fun m _ hI => absurd hI (by omega))
      (fun m _ k hk hI => by
        show f_RE_isBesideSea_L2 μ (nI f) (fun _ => some 0) (m + 1) (nI k) = _ ∨ ∃ _, _ ∧ f_RE_isBesideSea_L2 μ (nI f) (fun _ => some 0) (m + 1) (nI k) = _
        rw [step m k hk]
        by_cases e : nbr w n ld f k = none
        · rw [if_pos e]; exact Or.inl rfl
        · rw [if_neg e]
          refine Or.inr ⟨(), ?_, rfl⟩
          have : k ≠ k0 := fun q => e (q ▸ e0)
          omega)
  · refine Or.inr ⟨c, ?_⟩
    exact lp_b0 (fun m (_ : Unit) k => f_RE_isBesideSea_L2 μ (nI f) (fun _ => some 0) m (nI k)) (fun _ _ => True) (fun o => o = some 0) 4 () (by decide) trivial
      (fun m _ _ => by show f_RE_isBesideSea_L2 μ (nI f) (fun _ => some 0) (m + 1) (nI 4) = _; rw [f_RE_isBesideSea_L2.eq_2, if_pos (by decide)])
      (fun m _ k hk _ => Or.inr ⟨(), trivial, by
        show f_RE_isBesideSea_L2 μ (nI f) (fun _ => some 0) (m + 1) (nI k) = _
        rw [step m k hk, if_neg (fun e => c ⟨k, hk, e⟩)]⟩)
theorem RE_lowestBeside (hz : Sz w n ld) (h : ReC w n ld ht μ) (hb : NbC w n ld μ) {f : Nat} (hf : f < n) (s : Int64) : ∃ r, f_RE_lowestBeside μ (nI f) s = some (encN r) ∧ LowR ht (bit s) (nbr w n ld f) 4 r ∧ ∀ a, r = some a → a < n := by
  have hn := hz.2.2.1
  unfold f_RE_lowestBeside
  obtain ⟨v, h1, r, h2, h3, h4⟩ := lp_0 (fun m a k => f_RE_lowestBeside_L7 μ (nI f) s m a (nI k)) (fun k a => ∃ r, a = encN r ∧ LowR ht (bit s) (nbr w n ld f) k r ∧ ∀ x, r = some x → x < n) (fun v => ∃ r, v = encN r ∧ LowR ht (bit s) (nbr w n ld f) 4 r ∧ ∀ x, r = some x → x < n) 4 (-3) (by decide)
    ⟨none, rfl, fun k hk => absurd hk (Nat.not_lt_zero k), fun x hx => by cases hx⟩
    (fun m a g => ⟨a, by show f_RE_lowestBeside_L7 μ (nI f) s (m + 1) a (nI 4) = _; rw [f_RE_lowestBeside_L7.eq_2, if_pos (by decide)], g⟩)
    (fun m a k hk g => by
      obtain ⟨r, rfl, g2, g3⟩ := g
      show ∃ a', _ ∧ f_RE_lowestBeside_L7 μ (nI f) s (m + 1) (encN r) (nI k) = f_RE_lowestBeside_L7 μ (nI f) s m a' (nI (k + 1))
      rw [f_RE_lowestBeside_L7.eq_2, if_neg (nge 4 (b := 4) rfl hk (by decide)), RE_beside hz h hb hf hk, nI_1]
      simp only [Option.bind_some]
      cases e : nbr w n ld f k with
      | none =>
        rw [enc_none, if_pos rfl]
        exact ⟨encN r, ⟨r, rfl, LowR_skip g2 (fun g hg => by rw [e] at hg; cases hg), g3⟩, rfl⟩
      | some g =>
        have hg := (nbr_ne hz hf e).2.1
        rw [enc_some, if_neg (nI_n5 (by omega)), isIn_eq _ (by omega)]
        by_cases hp : bit s g = true
        · rw [if_pos hp, if_neg (by decide : ¬ (1 : Int32) = 0)]
          cases r with
          | none =>
            rw [show encN none = -3 from rfl, if_pos rfl]
            exact ⟨nI g, ⟨some g, rfl, LowR_take g2 e hp (fun a ha => by cases ha), fun x hx => by cases hx; exact hg⟩, rfl⟩
          | some b =>
            have hbn := g3 b rfl
            rw [show encN (some b) = nI b from rfl, if_neg (nI_n3 (by omega)), RE_isLower hn h hg hbn]
            simp only [Option.bind_some]
            by_cases c : lw ht g b = true
            · rw [if_pos c, if_neg (by decide : ¬ (1 : Int32) = 0)]
              exact ⟨nI g, ⟨some g, rfl, LowR_take g2 e hp (fun a ha => by cases ha; exact c), fun x hx => by cases hx; exact hg⟩, rfl⟩
            · rw [if_neg c, if_pos rfl]
              exact ⟨nI b, ⟨some b, rfl, LowR_keep g2 e c, g3⟩, rfl⟩
        · rw [if_neg hp, if_pos rfl]
          exact ⟨encN r, ⟨r, rfl, LowR_skip g2 (fun x hx => by rw [e] at hx; cases hx; exact Bool.eq_false_iff.mpr hp), g3⟩, rfl⟩)
  refine ⟨r, ?_, h3, h4⟩
  rw [show f_RE_lowestBeside_L7 μ (nI f) s FU (-3) 0 = some v from h1, h2]
  rfl
theorem RE_downOf (hz : Sz w n ld) (h : ReC w n ld ht μ) (hb : NbC w n ld μ) {f : Nat} (hf : f < n) : ∃ d, f_RE_downOf μ (nI f) = some d ∧ Dn ht (nbr w n ld f) f d := by
  have hn := hz.2.2.1
  unfold f_RE_downOf
  rcases RE_isBesideSea hz h hb hf with ⟨c, e⟩ | ⟨c, e⟩
  · rw [e]
    exact ⟨-5, rfl, Or.inl ⟨rfl, c⟩⟩
  · rw [e]
    simp only [Option.bind_some]
    rw [if_pos trivial]
    obtain ⟨r, h1, h2, h3⟩ := RE_lowestBeside hz h hb hf (μ.2 18 10)
    rw [h1]
    simp only [Option.bind_some]
    cases r with
    | none =>
      rw [show encN none = -3 from rfl, if_pos rfl]
      refine ⟨-3, rfl, Or.inr ⟨c, Or.inl ⟨rfl, fun k hk g hg => ?_⟩⟩⟩
      have := h2 k hk g hg
      rw [h.2.2.1 g, (nbr_ne hz hf hg).2.2] at this
      cases this
    | some a =>
      have ha := h3 a rfl
      obtain ⟨g1, ⟨k0, g2, g3⟩, g4⟩ := h2
      have all : ∀ k, k < 4 → ∀ g, nbr w n ld f k = some g → g = a ∨ lw ht a g = true := fun k hk g hg => g4 k hk g hg (by rw [h.2.2.1 g]; exact (nbr_ne hz hf hg).2.2)
      have hne := (nbr_ne hz hf g3).1
      rw [show encN (some a) = nI a from rfl, if_neg (nI_n3 (by omega)), RE_isLower hn h hf ha]
      simp only [Option.bind_some]
      by_cases q : lw ht f a = true
      · rw [if_pos q, if_neg (by decide)]
        refine ⟨-3, rfl, Or.inr ⟨c, Or.inl ⟨rfl, fun k hk g hg => ?_⟩⟩⟩
        rcases all k hk g hg with e2 | e2
        · rw [e2]; exact q
        · exact lw_tr q e2
      · rw [if_neg q, if_pos rfl]
        exact ⟨nI a, rfl, Or.inr ⟨c, Or.inr ⟨a, rfl, ⟨k0, g2, g3⟩, (lw_tot hne).resolve_right q, all⟩⟩⟩
/-- the ends of the ways, told by DOWN -/
def WE (n : Nat) (dn we : Nat → Int32) (f : Nat) : Prop := (dn f = -3 → we f = nI f) ∧ (dn f = -5 → we f = -5) ∧ ∀ a, a < n → dn f = nI a → we f = we a
theorem Dn_cases (hz : Sz w n ld) {f : Nat} (hf : f < n) {d : Int32} (h : Dn ht (nbr w n ld f) f d) : d = -5 ∨ d = -3 ∨ ∃ a, a < n ∧ ld a = true ∧ d = nI a ∧ lw ht a f = true := by
  rcases h with ⟨e, -⟩ | ⟨-, ⟨e, -⟩ | ⟨a, e, ⟨k, h1, h2⟩, h3, -⟩⟩
  · exact Or.inl e
  · exact Or.inr (Or.inl e)
  · exact Or.inr (Or.inr ⟨a, (nbr_ne hz hf h2).2.1, (nbr_ne hz hf h2).2.2, e, h3⟩)
theorem RE_findWays (hz : Sz w n ld) (h : ReC w n ld ht μ) (hb : NbC w n ld μ) {m : Nat} {od : Nat → Nat} (hm : m ≤ n) (ho : OrC n ld ht μ m od) : ∃ a, f_RE_findWays μ = some a ∧ (∀ f, ld f = true → Dn ht (nbr w n ld f) f (a.1 20 f) ∧ WE n (a.1 20) (a.1 21) f) ∧ (∀ q, q ≠ 20 → q ≠ 21 → a.1 q = μ.1 q) ∧ a.2 = μ.2 := by
  have hn := hz.2.2.1
  obtain ⟨o1, o2, o3, o4⟩ := id ho
  unfold f_RE_findWays
  have inj : ∀ i j, i < m → j < m → od i = od j → i = j := by
    intro i j hi hj e
    rcases Nat.lt_trichotomy i j with q | q | q
    · have := o3 i j q hj; rw [e] at this; exact absurd this lw_irr
    · exact q
    · have := o3 j i q hi; rw [e] at this; exact absurd this lw_irr
  obtain ⟨v, h1, h2, h3, h4⟩ := lp_0 (fun i a k => f_RE_findWays_L2 i a (nI k)) (fun k a => (∀ j, j < k → Dn ht (nbr w n ld (od j)) (od j) (a.1 20 (od j)) ∧ WE n (a.1 20) (a.1 21) (od j)) ∧ (∀ q, q ≠ 20 → q ≠ 21 → a.1 q = μ.1 q) ∧ a.2 = μ.2)
    (fun a => (∀ j, j < m → Dn ht (nbr w n ld (od j)) (od j) (a.1 20 (od j)) ∧ WE n (a.1 20) (a.1 21) (od j)) ∧ (∀ q, q ≠ 20 → q ≠ 21 → a.1 q = μ.1 q) ∧ a.2 = μ.2) m μ (by omega)
    ⟨fun j hj => absurd hj (Nat.not_lt_zero j), fun _ _ _ => rfl, rfl⟩
    (fun i a g => ⟨a, by
      show f_RE_findWays_L2 (i + 1) a (nI m) = _
      rw [f_RE_findWays_L2.eq_2, g.2.1 18 (by decide) (by decide), o1, if_pos (Int32.le_refl _)], g⟩)
    (fun i a k hk g => by
      obtain ⟨g1, g2, g3⟩ := g
      have ra : ReC w n ld ht a := h.of (by rw [g2 18 (by decide) (by decide)]) (by rw [g2 18 (by decide) (by decide)]) (by rw [g3]) (g2 19 (by decide) (by decide))
      have nba : NbC w n ld a := fun f hf j hj => by rw [g2 24 (by decide) (by decide)]; exact hb f hf j hj
      obtain ⟨p1, p2, p3⟩ := o2 k hk
      obtain ⟨d, q1, q2⟩ := RE_downOf hz ra nba p2
      show ∃ a', _ ∧ f_RE_findWays_L2 (i + 1) a (nI k) = f_RE_findWays_L2 i a' (nI (k + 1))
      rw [f_RE_findWays_L2.eq_2, g2 18 (by decide) (by decide), o1, if_neg (nI_ge hk (by omega)), G_n (by omega) (by decide), cl (by omega), g2 23 (by decide) (by decide), p1, q1, nI_1]
      simp only [Option.bind_some, G_n (show od k < 64 by omega) (show 64 < 2147483648 by decide)]
      rw [cl (by omega)]
      -- the end of the way of the k-th
      have fin : ∀ x : Int32, (d = -3 → x = nI (od k)) → (d = -5 → x = -5) → (∀ b, b < n → d = nI b → x = a.1 21 b) → (∀ j, j < k + 1 → Dn ht (nbr w n ld (od j)) (od j) ((sI (sI a 20 (od k) d) 21 (od k) x).1 20 (od j)) ∧ WE n ((sI (sI a 20 (od k) d) 21 (od k) x).1 20) ((sI (sI a 20 (od k) d) 21 (od k) x).1 21) (od j)) ∧ (∀ q, q ≠ 20 → q ≠ 21 → (sI (sI a 20 (od k) d) 21 (od k) x).1 q = μ.1 q) ∧ (sI (sI a 20 (od k) d) 21 (od k) x).2 = μ.2 := by
        intro x x1 x2 x3
        have r20 : ∀ f, (sI (sI a 20 (od k) d) 21 (od k) x).1 20 f = if f = od k then d else a.1 20 f := by
          intro f
          rw [sI_ne (by decide)]
          by_cases e : f = od k
          · rw [if_pos e, e, sI_at]
          · rw [if_neg e, sI_off e]
        have r21 : ∀ f, (sI (sI a 20 (od k) d) 21 (od k) x).1 21 f = if f = od k then x else a.1 21 f := by
          intro f
          by_cases e : f = od k
          · rw [if_pos e, e, sI_at]
          · rw [if_neg e, sI_off e, sI_ne (by decide)]
        refine ⟨fun j hj => ?_, fun q e1 e2 => by rw [sI_ne e2, sI_ne e1]; exact g2 q e1 e2, g3⟩
        by_cases e : j = k
        · subst e
          rw [r20, if_pos rfl]
          refine ⟨q2, ?_, ?_, ?_⟩
          · intro hd; rw [r20, if_pos rfl] at hd; rw [r21, if_pos rfl]; exact x1 hd
          · intro hd; rw [r20, if_pos rfl] at hd; rw [r21, if_pos rfl]; exact x2 hd
          · intro b hbn hd
            rw [r20, if_pos rfl] at hd
            rw [r21, if_pos rfl, r21]
            have hne : b ≠ od j := by
              intro e2
              rcases Dn_cases hz p2 q2 with e3 | e3 | ⟨c, c1, c2, c3, c4⟩
              · rw [e3] at hd; exact nI_n5 (by omega) hd.symm
              · rw [e3] at hd; exact nI_n3 (by omega) hd.symm
              · rw [c3] at hd
                have := nI_inj (by omega) (by omega) hd
                subst this
                rw [e2] at c4
                exact lw_irr c4
            rw [if_neg hne]
            exact x3 b hbn hd
        · have hjk : j < k := by omega
          obtain ⟨t1, t2, t3, t4⟩ := g1 j hjk
          have hne : od j ≠ od k := fun q => e (inj j k (by omega) hk q)
          rw [r20, if_neg hne]
          refine ⟨t1, ?_, ?_, ?_⟩
          · intro hd; rw [r20, if_neg hne] at hd; rw [r21, if_neg hne]; exact t2 hd
          · intro hd; rw [r20, if_neg hne] at hd; rw [r21, if_neg hne]; exact t3 hd
          · intro b hbn hd
            rw [r20, if_neg hne] at hd
            rw [r21, if_neg hne, r21]
            have hnb : b ≠ od k := by
              intro e2
              rcases Dn_cases hz (o2 j (by omega)).2.1 t1 with e3 | e3 | ⟨c, c1, c2, c3, c4⟩
              · rw [e3] at hd; exact nI_n5 (by omega) hd.symm
              · rw [e3] at hd; exact nI_n3 (by omega) hd.symm
              · rw [c3] at hd
                have := nI_inj (by omega) (by omega) hd
                subst this
                rw [e2] at c4
                exact absurd (o3 j k hjk hk) (lw_asym c4)
            rw [if_neg hnb]
            exact t4 b hbn hd
      rcases Dn_cases hz p2 q2 with e3 | e3 | ⟨c, c1, c2, c3, c4⟩
      · rw [e3, if_neg (by decide), if_pos rfl]
        simp only [Option.bind_some]
        rw [← e3]
        exact ⟨_, fin (-5) (fun e => by rw [e3] at e; exact absurd e (by decide)) (fun _ => rfl) (fun b hbn e => by rw [e3] at e; exact absurd e.symm (nI_n5 (by omega))), by rw [e3]⟩
      · rw [e3, if_pos rfl]
        simp only [Option.bind_some]
        rw [← e3]
        exact ⟨_, fin (nI (od k)) (fun _ => rfl) (fun e => by rw [e3] at e; exact absurd e (by decide)) (fun b hbn e => by rw [e3] at e; exact absurd e.symm (nI_n3 (by omega))), rfl⟩
      · rw [c3, if_neg (nI_n3 (by omega)), if_neg (nI_n5 (by omega)), G_n (by omega) (by decide), cl (by omega)]
        simp only [Option.bind_some]
        rw [sI_ne (by decide : (21 : Nat) ≠ 20), ← c3]
        refine ⟨_, fin (a.1 21 c) (fun e => by rw [c3] at e; exact absurd e (nI_n3 (by omega))) (fun e => by rw [c3] at e; exact absurd e (nI_n5 (by omega))) (fun b hbn e => ?_), rfl⟩
        rw [c3] at e
        rw [nI_inj (by omega) (by omega) e])
  refine ⟨v, ?_, fun f hf => ?_, h3, h4⟩
  · rw [show f_RE_findWays_L2 FU μ 0 = some v from h1]
    rfl
  · obtain ⟨k, k1, k2⟩ := o4 f hf
    rw [← k2]
    exact h2 k k1
end WAYS
