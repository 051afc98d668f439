/-! ===== islands ===== -/
/-- fields hang together in A -/
def Con (w n : Nat) (ld : Nat → Bool) (A : Nat → Bool) (f g : Nat) : Prop := ∀ S : Nat → Prop, S f → (∀ x, S x → A x = true → ∀ k, k < 4 → ∀ y, nbr w n ld x k = some y → A y = true → S y) → S g
section ISL
variable {w n m : Nat} {ld : Nat → Bool} {ht : Nat → Int32} {od : Nat → Nat} {dn we : Nat → Int32} {σ : qLS} {A : Nat → Bool} {μ ν : Mem}
theorem Con.rf {f : Nat} : Con w n ld A f f := fun _ h _ => h
theorem Con.tr {f g h : Nat} (h1 : Con w n ld A f g) (h2 : Con w n ld A g h) : Con w n ld A f h := fun S s hs => h2 S (h1 S s hs) hs
theorem Con.st {f x y k : Nat} (h : Con w n ld A f x) (hx : A x = true) (hk : k < 4) (hn : nbr w n ld x k = some y) (hy : A y = true) : Con w n ld A f y := fun S s hs => hs x (h S s hs) hx k hk y hn hy
theorem Con.inA {f g : Nat} (hf : A f = true) (h : Con w n ld A f g) : A g = true := h (fun x => A x = true) hf (fun _ _ _ _ _ _ _ hy => hy)
theorem Con.sy (hz : Sz w n ld) (hA : ∀ f, A f = true → ld f = true) {f g : Nat} (h : Con w n ld A f g) : Con w n ld A g f := by
  refine h (fun x => Con w n ld A x f) Con.rf (fun x sx hx k hk y hn hy => ?_)
  obtain ⟨k', k1, k2⟩ := nbr_sym hz (hA x hx) hk hn
  exact (Con.rf.st hy k1 k2 hx).tr sx
/-! the class: a piece is taken away -/
def BfI (w n : Nat) (ld : Nat → Bool) (A L : Nat → Bool) (s : Nat) (a : Mem) (B : Int64) (q : Nat) (wq : Nat → Nat) : Prop := (∀ i, i < q → a.1 25 i = nI (wq i) ∧ wq i < n ∧ L (wq i) = true ∧ bit B (wq i) = false ∧ Con w n ld A s (wq i)) ∧ (∀ g, bit B g = true → L g = true) ∧ (∀ g, L g = true → bit B g = true ∨ ∃ i, i < q ∧ wq i = g) ∧ (∀ i j, i < j → j < q → wq i ≠ wq j) ∧ 0 < q ∧ wq 0 = s
theorem bf_sides (hz : Sz w n ld) (R : ReC w n ld ht μ) (Nb : NbC w n ld μ) (hA : ∀ f, A f = true → ld f = true) {L : Nat → Bool} (hLA : ∀ g, L g = true → A g = true) {s p : Nat} {a : Mem} {B : Int64} {q : Nat} {wq : Nat → Nat} (hI : BfI w n ld A L s a B q wq) (hp : p < q) (hd : ∀ i, i < p → ∀ k, k < 4 → ∀ y, nbr w n ld (wq i) k = some y → bit B y = false) (hfr : (∀ c, c ≠ 25 → a.1 c = μ.1 c) ∧ a.2 = μ.2) :
    ∃ (B' : Int64) (q' : Nat) (a' : Mem) (wq' : Nat → Nat), f_RE_withoutPieceAt_L42 (nI p) FU a B (nI q) 0 = some (B', nI q', a') ∧ BfI w n ld A L s a' B' q' wq' ∧ p < q' ∧ (∀ i, i < p + 1 → ∀ k, k < 4 → ∀ y, nbr w n ld (wq' i) k = some y → bit B' y = false) ∧ ((∀ c, c ≠ 25 → a'.1 c = μ.1 c) ∧ a'.2 = μ.2) := by
  have hn := hz.2.2.1
  obtain ⟨v, v1, B', q', a', wq', rfl, v3⟩ := lp_0 (fun i (x : Int64 × Int32 × Mem) k => f_RE_withoutPieceAt_L42 (nI p) i x.2.2 x.1 x.2.1 (nI k))
    (fun K x => ∃ (B' : Int64) (q' : Nat) (a' : Mem) (wq' : Nat → Nat), x = (B', nI q', a') ∧ BfI w n ld A L s a' B' q' wq' ∧ p < q' ∧ (∀ i, i < p → ∀ k, k < 4 → ∀ y, nbr w n ld (wq' i) k = some y → bit B' y = false) ∧ (∀ k, k < K → ∀ y, nbr w n ld (wq' p) k = some y → bit B' y = false) ∧ ((∀ c, c ≠ 25 → a'.1 c = μ.1 c) ∧ a'.2 = μ.2))
    (fun x => ∃ (B' : Int64) (q' : Nat) (a' : Mem) (wq' : Nat → Nat), x = (B', nI q', a') ∧ BfI w n ld A L s a' B' q' wq' ∧ p < q' ∧ (∀ i, i < p + 1 → ∀ k, k < 4 → ∀ y, nbr w n ld (wq' i) k = some y → bit B' y = false) ∧ ((∀ c, c ≠ 25 → a'.1 c = μ.1 c) ∧ a'.2 = μ.2)) 4 (B, nI q, a) (by decide)
    ⟨B, q, a, wq, rfl, hI, hp, hd, fun k hk => absurd hk (Nat.not_lt_zero k), hfr⟩
    (fun i x g => by
      obtain ⟨B', q', a', wq', rfl, g1, g2, g3, g4, g5⟩ := g
      refine ⟨_, ?_, B', q', a', wq', rfl, g1, g2, fun j hj k hk y hy => ?_, g5⟩
      · show f_RE_withoutPieceAt_L42 (nI p) (i + 1) a' B' (nI q') (nI 4) = _
        rw [f_RE_withoutPieceAt_L42.eq_2, if_pos (by decide)]
      · by_cases e : j = p
        · subst e; exact g4 k hk y hy
        · exact g3 j (by omega) k hk y hy)
    (fun i x K hK g => by
      obtain ⟨B', q', a', wq', rfl, g1, g2, g3, g4, g5⟩ := g
      obtain ⟨b1, b2, b3, b4, b5, b6⟩ := id g1
      have hq : q' ≤ n := fb_holes n q' wq' (fun i hi => (b1 i hi).2.1) (fun i j hi hj => b4 i j hi hj)
      obtain ⟨p1, p2, p3, p4, p5⟩ := b1 p g2
      have Ra : ReC w n ld ht a' := R.of (by rw [g5.1 18 (by decide)]) (by rw [g5.1 18 (by decide)]) (by rw [g5.2]) (g5.1 19 (by decide))
      have Na : NbC w n ld a' := fun f hf k hk => by rw [g5.1 24 (by decide)]; exact Nb f hf k hk
      show ∃ x' : Int64 × Int32 × Mem, _ ∧ f_RE_withoutPieceAt_L42 (nI p) (i + 1) a' B' (nI q') (nI K) = f_RE_withoutPieceAt_L42 (nI p) i x'.2.2 x'.1 x'.2.1 (nI (K + 1))
      rw [f_RE_withoutPieceAt_L42.eq_2, if_neg (nge 4 (b := 4) rfl hK (by decide)), G_n (by omega) (by decide), cl (by omega), p1, RE_beside hz Ra Na p2 hK, nI_1 K]
      simp only [Option.bind_some]
      have skip : (∀ y, nbr w n ld (wq' p) K = some y → bit B' y = false) → ∃ (B'' : Int64) (q'' : Nat) (a'' : Mem) (wq'' : Nat → Nat), ((B', nI q', a') : Int64 × Int32 × Mem) = (B'', nI q'', a'') ∧ BfI w n ld A L s a'' B'' q'' wq'' ∧ p < q'' ∧ (∀ i, i < p → ∀ k, k < 4 → ∀ y, nbr w n ld (wq'' i) k = some y → bit B'' y = false) ∧ (∀ k, k < K + 1 → ∀ y, nbr w n ld (wq'' p) k = some y → bit B'' y = false) ∧ ((∀ c, c ≠ 25 → a''.1 c = μ.1 c) ∧ a''.2 = μ.2) := by
        intro hs
        refine ⟨B', q', a', wq', rfl, g1, g2, g3, fun k hk y hy => ?_, g5⟩
        by_cases e : k = K
        · subst e; exact hs y hy
        · exact g4 k (by omega) y hy
      cases e : nbr w n ld (wq' p) K with
      | none =>
        rw [enc_none, if_pos rfl]
        exact ⟨(B', nI q', a'), skip (fun y hy => by rw [e] at hy; cases hy), rfl⟩
      | some y =>
        obtain ⟨y1, y2, y3⟩ := nbr_ne hz p2 e
        rw [enc_some, if_neg (nI_n5 (by omega)), isIn_eq _ (by omega)]
        by_cases c : bit B' y = true
        · have hlt : q' < 64 := by
            have := fb_holes n (q' + 1) (fun i => if i < q' then wq' i else y) (fun i hi => by
              by_cases r : i < q'
              · rw [if_pos r]; exact (b1 i r).2.1
              · rw [if_neg r]; exact y2) (fun i j hij hj => by
              rw [if_pos (show i < q' by omega)]
              by_cases r : j < q'
              · rw [if_pos r]; exact b4 i j hij r
              · rw [if_neg r]
                intro h
                have := (b1 i (by omega)).2.2.2.1
                rw [h, c] at this
                cases this)
            omega
          rw [if_pos c, if_neg n10, if_neg (nge 64 (b := 64) rfl hlt (by decide)), G_n hlt (by decide), cl (by omega), nI_1 q']
          simp only [Option.bind_some]
          have hbit : ∀ g, bit (B' &&& (f_LR_only (nI y) ^^^ (-1))) g = (bit B' g && !decide (g = y)) := by
            intro g
            by_cases r : g < 64
            · exact bit_andn B' (by omega) r
            · rw [bit_big (by omega), bit_big (by omega)]; rfl
          have hsub : ∀ g, bit B' g = false → bit (B' &&& (f_LR_only (nI y) ^^^ (-1))) g = false := fun g hg => by rw [hbit, hg]; rfl
          have hwe : ∀ i, i < q' → (if i < q' then wq' i else y) = wq' i := fun i hi => if_pos hi
          refine ⟨(B' &&& (f_LR_only (nI y) ^^^ (-1)), nI (q' + 1), sI a' 25 q' (nI y)), ⟨_, q' + 1, _, fun i => if i < q' then wq' i else y, rfl, ⟨?_, ?_, ?_, ?_, by omega, ?_⟩, by omega, ?_, ?_, ?_⟩, rfl⟩
          · intro i hi
            dsimp only
            by_cases r : i < q'
            · rw [if_pos r, sI_off (by omega)]
              obtain ⟨r1, r2, r3, r4, r5⟩ := b1 i r
              exact ⟨r1, r2, r3, hsub _ r4, r5⟩
            · have : i = q' := by omega
              subst this
              rw [if_neg r, sI_at]
              refine ⟨rfl, y2, b2 y c, ?_, ?_⟩
              · rw [hbit]; simp
              · exact p5.st (hLA _ p3) hK e (hLA _ (b2 y c))
          · intro g hg
            rw [hbit] at hg
            simp only [Bool.and_eq_true] at hg
            exact b2 g hg.1
          · intro g hg
            by_cases r : g = y
            · right
              exact ⟨q', by omega, by dsimp only; rw [if_neg (by omega)]; exact r.symm⟩
            · rcases b3 g hg with h | ⟨i, i1, i2⟩
              · left
                rw [hbit, h]
                simp [r]
              · right
                exact ⟨i, by omega, by dsimp only; rw [if_pos i1]; exact i2⟩
          · intro i j hij hj
            dsimp only
            rw [if_pos (show i < q' by omega)]
            by_cases r : j < q'
            · rw [if_pos r]; exact b4 i j hij r
            · rw [if_neg r]
              intro h
              have := (b1 i (by omega)).2.2.2.1
              rw [h, c] at this
              cases this
          · dsimp only
            rw [if_pos b5]; exact b6
          · intro j hj k hk z hz'
            dsimp only at hz'
            rw [if_pos (show j < q' by omega)] at hz'
            exact hsub z (g3 j hj k hk z hz')
          · intro k hk z hz'
            dsimp only at hz'
            rw [if_pos g2] at hz'
            by_cases r : k = K
            · subst r
              rw [e] at hz'
              cases hz'
              rw [hbit]; simp
            · exact hsub z (g4 k (by omega) z hz')
          · exact ⟨fun c hc => by rw [sI_ne hc]; exact g5.1 c hc, g5.2⟩
        · rw [if_neg c, if_pos rfl]
          exact ⟨(B', nI q', a'), skip (fun z hz' => by rw [e] at hz'; cases hz'; exact Bool.eq_false_iff.mpr c), rfl⟩)
  exact ⟨B', q', a', wq', v1, v3⟩
theorem RE_without (hz : Sz w n ld) (R : ReC w n ld ht μ) (Nb : NbC w n ld μ) (hA : ∀ f, A f = true → ld f = true) {L : Int64} (hLA : ∀ g, bit L g = true → A g = true) (hLc : ∀ x, bit L x = true → ∀ k, k < 4 → ∀ y, nbr w n ld x k = some y → A y = true → bit L y = true) {s : Nat} (hs : bit L s = true) (hsn : s < n) :
    ∃ (B : Int64) (a : Mem), f_RE_withoutPieceAt μ (nI s) L = some (B, a) ∧ (∀ g, bit B g = true ↔ (bit L g = true ∧ ¬ Con w n ld A s g)) ∧ (∀ c, c ≠ 25 → a.1 c = μ.1 c) ∧ a.2 = μ.2 := by
  have hn := hz.2.2.1
  have hbit : ∀ g, bit (L &&& (f_LR_only (nI s) ^^^ (-1))) g = (bit L g && !decide (g = s)) := by
    intro g
    by_cases r : g < 64
    · exact bit_andn L (by omega) r
    · rw [bit_big (by omega), bit_big (by omega)]; rfl
  have key : ∀ d p fuel (B : Int64) (q : Nat) (a : Mem) (wq : Nat → Nat), p + d = 64 → d < fuel → BfI w n ld A (bit L) s a B q wq → p ≤ q → (∀ i, i < p → ∀ k, k < 4 → ∀ y, nbr w n ld (wq i) k = some y → bit B y = false) → ((∀ c, c ≠ 25 → a.1 c = μ.1 c) ∧ a.2 = μ.2) →
      ∃ (B' : Int64) (a' : Mem) (q' : Nat) (wq' : Nat → Nat), f_RE_withoutPieceAt_L25 fuel a B (nI q) (nI p) = some (B', a') ∧ BfI w n ld A (bit L) s a' B' q' wq' ∧ (∀ i, i < q' → ∀ k, k < 4 → ∀ y, nbr w n ld (wq' i) k = some y → bit B' y = false) ∧ ((∀ c, c ≠ 25 → a'.1 c = μ.1 c) ∧ a'.2 = μ.2) := by
    intro d
    induction d with
    | zero =>
      intro p fuel B q a wq hp hfu hI hpq hd hfr
      obtain ⟨fuel, rfl⟩ : ∃ z, fuel = z + 1 := ⟨fuel - 1, by omega⟩
      have hq : q ≤ n := fb_holes n q wq (fun i hi => (hI.1 i hi).2.1) (fun i j hi hj => hI.2.2.2.1 i j hi hj)
      have e : q = p := by omega
      subst e
      refine ⟨B, a, q, wq, ?_, hI, hd, hfr⟩
      rw [f_RE_withoutPieceAt_L25.eq_2, if_pos (Int32.le_refl _)]
    | succ d ih =>
      intro p fuel B q a wq hp hfu hI hpq hd hfr
      obtain ⟨fuel, rfl⟩ : ∃ z, fuel = z + 1 := ⟨fuel - 1, by omega⟩
      have hq : q ≤ n := fb_holes n q wq (fun i hi => (hI.1 i hi).2.1) (fun i j hi hj => hI.2.2.2.1 i j hi hj)
      by_cases c : p = q
      · subst c
        refine ⟨B, a, p, wq, ?_, hI, hd, hfr⟩
        rw [f_RE_withoutPieceAt_L25.eq_2, if_pos (Int32.le_refl _)]
      · obtain ⟨B', q', a', wq', h1, h2, h3, h4, h5⟩ := bf_sides hz R Nb hA hLA hI (show p < q by omega) hd hfr
        rw [f_RE_withoutPieceAt_L25.eq_2, if_neg (nI_ge (by omega) (by omega)), if_neg (nge 64 (b := 64) rfl (by omega) (by decide)), h1]
        simp only [Option.bind_some]
        rw [nI_1]
        exact ih (p + 1) fuel B' q' a' wq' (by omega) (by omega) h2 (by omega) h4 h5
  obtain ⟨B, a, q, wq, k1, k2, k3, k4, k5⟩ := key 64 0 FU (L &&& (f_LR_only (nI s) ^^^ (-1))) 1 (sI μ 25 0 (nI s)) (fun _ => s) (by omega) (by unfold FU; omega)
    ⟨fun i hi => by
      have : i = 0 := by omega
      subst this
      exact ⟨sI_at, hsn, hs, by rw [hbit]; simp, Con.rf⟩, fun g hg => by
      rw [hbit] at hg
      simp only [Bool.and_eq_true] at hg
      exact hg.1, fun g hg => by
      by_cases r : g = s
      · exact Or.inr ⟨0, by omega, r.symm⟩
      · left; rw [hbit, hg]; simp [r], fun i j hij hj => by omega, by omega, rfl⟩ (Nat.zero_le _) (fun i hi => absurd hi (Nat.not_lt_zero i)) ⟨fun c hc => sI_ne hc, rfl⟩
  refine ⟨B, a, ?_, fun g => ⟨fun hg => ⟨k2.2.1 g hg, fun hc => ?_⟩, fun ⟨h1, h2⟩ => ?_⟩, k4, k5⟩
  · unfold f_RE_withoutPieceAt
    have e0 : (0 : Int32).toNatClampNeg = 0 := rfl
    rw [show G 0 64 _ = _ from G_n (k := 0) (n := 64) (by decide) (by decide), e0, show f_RE_withoutPieceAt_L25 FU (sI μ 25 0 (nI s)) (L &&& (f_LR_only (nI s) ^^^ (-1))) 1 0 = some (B, a) from k1]
    rfl
  · have : ∃ i, i < q ∧ wq i = g := by
      refine hc (fun x => ∃ i, i < q ∧ wq i = x) ⟨0, k2.2.2.2.2.1, k2.2.2.2.2.2⟩ ?_
      rintro x ⟨i, i1, rfl⟩ hx k hk y hy hAy
      have hLy := hLc _ (k2.1 i i1).2.2.1 k hk y hy hAy
      rcases k2.2.2.1 y hLy with h | h
      · rw [k3 i i1 k hk y hy] at h; cases h
      · exact h
    obtain ⟨i, i1, rfl⟩ := this
    rw [(k2.1 i i1).2.2.2.1] at hg
    cases hg
  · rcases k2.2.2.1 g h1 with h | ⟨i, i1, rfl⟩
    · exact h
    · exact absurd (k2.1 i i1).2.2.2.2 h2
theorem RE_pieces (hz : Sz w n ld) (R : ReC w n ld ht μ) (Nb : NbC w n ld μ) (hA : ∀ f, A f = true → ld f = true) (s : Int64) (hs : ∀ g, bit s g = A g) {lb : Nat → Bool} (hlb : ∀ f, f < n → (lb f = true ↔ (A f = true ∧ ∀ g, g < f → A g = true → ¬ Con w n ld A g f))) : ∃ a, f_RE_piecesOf μ s = some (nI (fb_ct lb n), a) ∧ (∀ c, c ≠ 25 → a.1 c = μ.1 c) ∧ a.2 = μ.2 := by
  have hn := hz.2.2.1
  unfold f_RE_piecesOf
  have key : ∀ d k fuel (L : Int64) (a : Mem), k + d = n → d < fuel → (∀ g, bit L g = true ↔ (A g = true ∧ ∀ f, f < k → A f = true → ¬ Con w n ld A f g)) → ((∀ c, c ≠ 25 → a.1 c = μ.1 c) ∧ a.2 = μ.2) → ∃ a', f_RE_piecesOf_L8 fuel a L (nI (fb_ct lb k)) (nI k) = some (nI (fb_ct lb n), a') ∧ (∀ c, c ≠ 25 → a'.1 c = μ.1 c) ∧ a'.2 = μ.2 := by
    intro d
    induction d with
    | zero =>
      intro k fuel L a hk hfu hL hfr
      obtain ⟨fuel, rfl⟩ : ∃ z, fuel = z + 1 := ⟨fuel - 1, by omega⟩
      have : k = n := by omega
      subst this
      refine ⟨a, ?_, hfr⟩
      rw [f_RE_piecesOf_L8.eq_2, hfr.1 18 (by decide), R.2.1, if_pos (Int32.le_refl _)]
    | succ d ih =>
      intro k fuel L a hk hfu hL hfr
      obtain ⟨fuel, rfl⟩ : ∃ z, fuel = z + 1 := ⟨fuel - 1, by omega⟩
      have Ra : ReC w n ld ht a := R.of (by rw [hfr.1 18 (by decide)]) (by rw [hfr.1 18 (by decide)]) (by rw [hfr.2]) (hfr.1 19 (by decide))
      have Na : NbC w n ld a := fun f hf k hk => by rw [hfr.1 24 (by decide)]; exact Nb f hf k hk
      have hiff : lb k = true ↔ bit L k = true := by rw [hlb k (by omega), hL k]
      rw [f_RE_piecesOf_L8.eq_2, Ra.2.1, if_neg (nI_ge (by omega) (by omega)), isIn_eq _ (by omega)]
      by_cases c : bit L k = true
      · rw [if_pos c, if_neg n10]
        obtain ⟨B, a', p1, p2, p3, p4⟩ := RE_without hz Ra Na hA (L := L) (fun g hg => ((hL g).mp hg).1) (fun x hx k' hk' y hy hAy => by
          obtain ⟨x1, x2⟩ := (hL x).mp hx
          refine (hL y).mpr ⟨hAy, fun f hf hAf hc => x2 f hf hAf ?_⟩
          obtain ⟨k2, k3, k4⟩ := nbr_sym hz (hA x x1) hk' hy
          exact hc.st hAy k3 k4 x1) c (by omega)
        rw [p1]
        simp only [Option.bind_some]
        have e1 : nI (fb_ct lb k) + 1 = nI (fb_ct lb (k + 1)) := by rw [nI_1, fb_ct_succ, hiff.mpr c, if_pos rfl]
        rw [e1, nI_1]
        refine ih (k + 1) fuel B a' (by omega) (by omega) (fun g => ?_) ⟨fun q hq => (p3 q hq).trans (hfr.1 q hq), p4.trans hfr.2⟩
        rw [p2 g, hL g]
        constructor
        · rintro ⟨⟨g1, g2⟩, g3⟩
          refine ⟨g1, fun f hf hAf => ?_⟩
          by_cases e : f = k
          · subst e; exact g3
          · exact g2 f (by omega) hAf
        · rintro ⟨g1, g2⟩
          exact ⟨⟨g1, fun f hf => g2 f (by omega)⟩, g2 k (by omega) ((hL k).mp c).1⟩
      · rw [if_neg c, if_pos rfl]
        simp only [Option.bind_some]
        have e1 : fb_ct lb (k + 1) = fb_ct lb k := by rw [fb_ct_succ, if_neg (fun q => c (hiff.mp q)), Nat.add_zero]
        rw [nI_1, ← e1]
        refine ih (k + 1) fuel L a (by omega) (by omega) (fun g => ?_) hfr
        rw [hL g]
        constructor
        · rintro ⟨g1, g2⟩
          refine ⟨g1, fun f hf hAf hc => ?_⟩
          by_cases e : f = k
          · subst e
            refine c ((hL f).mpr ⟨hAf, fun f' hf' hAf' hc' => ?_⟩)
            exact g2 f' hf' hAf' (hc'.tr hc)
          · exact g2 f (by omega) hAf hc
        · rintro ⟨g1, g2⟩
          exact ⟨g1, fun f hf => g2 f (by omega)⟩
  obtain ⟨a, a1, a2⟩ := key n 0 FU s μ (by omega) (by unfold FU; omega) (fun g => by rw [hs g]; exact ⟨fun h => ⟨h, fun f hf => absurd hf (Nat.not_lt_zero f)⟩, fun h => h.1⟩) ⟨fun _ _ => rfl, rfl⟩
  refine ⟨a, ?_, a2⟩
  rw [show f_RE_piecesOf_L8 FU μ s 0 0 = some (nI (fb_ct lb n), a) from a1]
  rfl
end ISL
