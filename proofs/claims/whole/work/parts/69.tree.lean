/-! ===== the tree of lakes, without memory ===== -/
/-- number, grounds, rims, wholes, lesser parts, greater parts, sea's fields -/
abbrev qLS : Type := Nat × (Nat → Nat → Bool) × (Nat → Int32) × (Nat → Int32) × (Nat → Int32) × (Nat → Int32) × (Nat → Bool)
def qN (σ : qLS) : Nat := σ.1
def qF (σ : qLS) : Nat → Nat → Bool := σ.2.1
def qM (σ : qLS) : Nat → Int32 := σ.2.2.1
def qW (σ : qLS) : Nat → Int32 := σ.2.2.2.1
def qA (σ : qLS) : Nat → Int32 := σ.2.2.2.2.1
def qB (σ : qLS) : Nat → Int32 := σ.2.2.2.2.2.1
def qS (σ : qLS) : Nat → Bool := σ.2.2.2.2.2.2
def qsub (F : Nat → Nat → Bool) (l m : Nat) : Prop := ∀ f, F l f = true → F m f = true
def qdis (F : Nat → Nat → Bool) (l m : Nat) : Prop := ∀ f, ¬ (F l f = true ∧ F m f = true)
theorem qdis.sy {F : Nat → Nat → Bool} {l m : Nat} (h : qdis F l m) : qdis F m l := fun f q => h f ⟨q.2, q.1⟩
theorem qsub.tr {F : Nat → Nat → Bool} {l m x : Nat} (h : qsub F l m) (s : qsub F m x) : qsub F l x := fun f q => s f (h f q)
theorem qdis.no {F : Nat → Nat → Bool} {l m : Nat} (h : qdis F l m) {x : Nat} (hx : ∃ f, F x f = true) (s1 : qsub F x l) (s2 : qsub F x m) : False := by
  obtain ⟨f, hf⟩ := hx
  exact h f ⟨s1 f hf, s2 f hf⟩
theorem qsub.rf {F : Nat → Nat → Bool} {l : Nat} : qsub F l l := fun _ h => h
def qR (W : Nat → Int32) (l : Nat) : Bool := decide (W l = -3 ∨ W l = -5)
def qIA (σ : qLS) (U : Nat → Bool) (ld : Nat → Bool) : Prop := (∀ l, l < qN σ → ∀ f, qF σ l f = true → U f = true) ∧ (∀ f, qS σ f = true → U f = true) ∧ (∀ f, U f = true → ld f = true) ∧ (∀ f, U f = true → qS σ f = true ∨ ∃ l, l < qN σ ∧ qW σ l = -3 ∧ qF σ l f = true) ∧ (∀ l, l < qN σ → qW σ l = -3 → ∀ f, qF σ l f = true → qS σ f = false)
def qIL (σ : qLS) : Prop := (∀ l m, l < qN σ → m < qN σ → l ≠ m → qdis (qF σ) l m ∨ qsub (qF σ) l m ∨ qsub (qF σ) m l) ∧ (∀ t, t < qN σ → qW σ t = -3 → ∀ l, l < qN σ → l ≠ t → qsub (qF σ) l t ∨ qdis (qF σ) l t) ∧ (∀ l m, l < qN σ → m < qN σ → l ≠ m → qsub (qF σ) l m → ¬ qsub (qF σ) m l) ∧ ∀ l, l < qN σ → ∃ f, qF σ l f = true
def qIW (w n : Nat) (ld : Nat → Bool) (σ : qLS) : Prop := ∀ l, l < qN σ → (qW σ l = -3 ∧ qM σ l = -3) ∨ (qW σ l = -5 ∧ ∃ r, qM σ l = nI r ∧ r < n ∧ ld r = true) ∨ ∃ m o r, l < m ∧ m < qN σ ∧ qW σ l = nI m ∧ o < qN σ ∧ o ≠ l ∧ qW σ o = nI m ∧ qM σ o = nI r ∧ qM σ l = nI r ∧ r < n ∧ ld r = true ∧ ((qA σ m = nI l ∧ qB σ m = nI o) ∨ (qA σ m = nI o ∧ qB σ m = nI l)) ∧ ∃ k, k < 4 ∧ ∃ g, nbr w n ld r k = some g ∧ qF σ l g = true
def qIB (σ : qLS) : Prop := ∀ m, m < qN σ → (qA σ m = -3 ∧ qB σ m = -3) ∨ ∃ a b, a < b ∧ b < m ∧ qA σ m = nI a ∧ qB σ m = nI b ∧ qW σ a = nI m ∧ qW σ b = nI m ∧ qsub (qF σ) a m ∧ qsub (qF σ) b m ∧ qdis (qF σ) a b ∧ ∀ l, l < qN σ → l ≠ m → qsub (qF σ) l m → qsub (qF σ) l a ∨ qsub (qF σ) l b
def qIT (σ : qLS) : Prop := ∀ l m x, l < qN σ → m < qN σ → qW σ l = nI m → x < qN σ → x ≠ l → qsub (qF σ) l x → qsub (qF σ) m x
def qID (n : Nat) (dn : Nat → Int32) (σ : qLS) : Prop := ∀ l, l < qN σ → ∀ f, qF σ l f = true → ¬ dn f = -5 ∧ ∀ a, a < n → dn f = nI a → qF σ l a = true
def qIH (dn : Nat → Int32) (σ : qLS) (U : Nat → Bool) : Prop := ∀ z, U z = true → dn z = -3 → ∃ s, s < qN σ ∧ qA σ s = -3 ∧ qF σ s z = true
def qIC (w n : Nat) (ld : Nat → Bool) (σ : qLS) (U : Nat → Bool) : Prop := ∀ t, t < qN σ → qW σ t = -3 → ∀ f, qF σ t f = true → ∀ k, k < 4 → nbr w n ld f k ≠ none ∧ ∀ g, nbr w n ld f k = some g → U g = true → qF σ t g = true
def qIN (n : Nat) (dn : Nat → Int32) (σ : qLS) (U : Nat → Bool) : Prop := fb_ct (fun l => decide (qA σ l = -3)) (qN σ) = fb_ct (fun z => U z && decide (dn z = -3)) n ∧ fb_ct (qR (qW σ)) (qN σ) + qN σ = 2 * fb_ct (fun l => decide (qA σ l = -3)) (qN σ)
def qInv (w n : Nat) (ld : Nat → Bool) (dn : Nat → Int32) (σ : qLS) (U : Nat → Bool) : Prop := qIA σ U ld ∧ qIL σ ∧ qIW w n ld σ ∧ qIB σ ∧ qIT σ ∧ qID n dn σ ∧ qIH dn σ U ∧ qIC w n ld σ U ∧ qIN n dn σ U
/-- tops are apart -/
theorem qtop {σ : qLS} (h : qIL σ) {t u : Nat} (ht : t < qN σ) (hu : u < qN σ) (wt : qW σ t = -3) (wu : qW σ u = -3) (hne : t ≠ u) : qdis (qF σ) t u := by
  rcases h.2.1 u hu wu t ht hne with q | q
  · rcases h.2.1 t ht wt u hu (Ne.symm hne) with q2 | q2
    · exact absurd q2 (h.2.2.1 t u ht hu hne q)
    · exact q2.sy
  · exact q
/-- two tops become parts of a new double -/
def qdbl (σ : qLS) (f a b : Nat) : qLS := (qN σ + 1, va_up (qF σ) (qN σ) (fun g => qF σ a g || qF σ b g), va_up (va_up (va_up (qM σ) (qN σ) (-3)) a (nI f)) b (nI f), va_up (va_up (va_up (qW σ) (qN σ) (-3)) a (nI (qN σ))) b (nI (qN σ)), va_up (qA σ) (qN σ) (nI (min a b)), va_up (qB σ) (qN σ) (nI (max a b)), qS σ)
/-- a top spills to the sea -/
def qspl (σ : qLS) (f l : Nat) : qLS := (qN σ, qF σ, va_up (qM σ) l (nI f), va_up (qW σ) l (-5), qA σ, qB σ, fun g => qS σ g || qF σ l g)
/-- a lake of one field -/
def qsgl (σ : qLS) (f : Nat) : qLS := (qN σ + 1, va_up (qF σ) (qN σ) (fun g => decide (g = f)), va_up (qM σ) (qN σ) (-3), va_up (qW σ) (qN σ) (-3), va_up (qA σ) (qN σ) (-3), va_up (qB σ) (qN σ) (-3), qS σ)
/-- a field comes to a top -/
def qadf (σ : qLS) (f t : Nat) : qLS := (qN σ, va_up (qF σ) t (fun g => qF σ t g || decide (g = f)), qM σ, qW σ, qA σ, qB σ, qS σ)
/-- a field becomes the sea's -/
def qsel (σ : qLS) (f : Nat) : qLS := (qN σ, qF σ, qM σ, qW σ, qA σ, qB σ, fun g => qS σ g || decide (g = f))
def quf (U : Nat → Bool) (f : Nat) : Nat → Bool := fun g => U g || decide (g = f)
theorem quf_self {U : Nat → Bool} {f : Nat} : quf U f f = true := by simp [quf]
theorem quf_of {U : Nat → Bool} {f g : Nat} (h : U g = true) : quf U f g = true := by simp [quf, h]
theorem quf_cases {U : Nat → Bool} {f g : Nat} (h : quf U f g = true) : U g = true ∨ g = f := by simpa [quf] using h
section DBL
variable {w n : Nat} {ld : Nat → Bool} {dn : Nat → Int32} {σ : qLS} {U : Nat → Bool} {f a b : Nat}
theorem qd_N : qN (qdbl σ f a b) = qN σ + 1 := rfl
theorem qd_F {l : Nat} (h : l < qN σ) : qF (qdbl σ f a b) l = qF σ l := va_up_ne _ _ (by omega)
theorem qd_FN {g : Nat} : qF (qdbl σ f a b) (qN σ) g = true ↔ (qF σ a g = true ∨ qF σ b g = true) := by
  have : qF (qdbl σ f a b) (qN σ) = fun g => qF σ a g || qF σ b g := va_up_self _ _ _
  rw [this]
  simp
theorem qd_W {l : Nat} (h1 : l < qN σ) (h2 : l ≠ a) (h3 : l ≠ b) : qW (qdbl σ f a b) l = qW σ l := by
  show va_up (va_up (va_up (qW σ) (qN σ) (-3)) a (nI (qN σ))) b (nI (qN σ)) l = _
  rw [va_up_ne _ _ h3, va_up_ne _ _ h2, va_up_ne _ _ (by omega)]
theorem qd_Wa (hab : a ≠ b) : qW (qdbl σ f a b) a = nI (qN σ) := by
  show va_up (va_up (va_up (qW σ) (qN σ) (-3)) a (nI (qN σ))) b (nI (qN σ)) a = _
  rw [va_up_ne _ _ hab, va_up_self]
theorem qd_Wb : qW (qdbl σ f a b) b = nI (qN σ) := va_up_self _ _ _
theorem qd_WN (ha : a < qN σ) (hb : b < qN σ) : qW (qdbl σ f a b) (qN σ) = -3 := by
  show va_up (va_up (va_up (qW σ) (qN σ) (-3)) a (nI (qN σ))) b (nI (qN σ)) (qN σ) = _
  rw [va_up_ne _ _ (by omega), va_up_ne _ _ (by omega), va_up_self]
theorem qd_M {l : Nat} (h1 : l < qN σ) (h2 : l ≠ a) (h3 : l ≠ b) : qM (qdbl σ f a b) l = qM σ l := by
  show va_up (va_up (va_up (qM σ) (qN σ) (-3)) a (nI f)) b (nI f) l = _
  rw [va_up_ne _ _ h3, va_up_ne _ _ h2, va_up_ne _ _ (by omega)]
theorem qd_Ma (hab : a ≠ b) : qM (qdbl σ f a b) a = nI f := by
  show va_up (va_up (va_up (qM σ) (qN σ) (-3)) a (nI f)) b (nI f) a = _
  rw [va_up_ne _ _ hab, va_up_self]
theorem qd_Mb : qM (qdbl σ f a b) b = nI f := va_up_self _ _ _
theorem qd_MN (ha : a < qN σ) (hb : b < qN σ) : qM (qdbl σ f a b) (qN σ) = -3 := by
  show va_up (va_up (va_up (qM σ) (qN σ) (-3)) a (nI f)) b (nI f) (qN σ) = _
  rw [va_up_ne _ _ (by omega), va_up_ne _ _ (by omega), va_up_self]
theorem qd_A {l : Nat} (h : l < qN σ) : qA (qdbl σ f a b) l = qA σ l := va_up_ne _ _ (by omega)
theorem qd_AN : qA (qdbl σ f a b) (qN σ) = nI (min a b) := va_up_self _ _ _
theorem qd_B {l : Nat} (h : l < qN σ) : qB (qdbl σ f a b) l = qB σ l := va_up_ne _ _ (by omega)
theorem qd_BN : qB (qdbl σ f a b) (qN σ) = nI (max a b) := va_up_self _ _ _
theorem qd_S : qS (qdbl σ f a b) = qS σ := rfl
theorem qd_sub {l m : Nat} (h1 : l < qN σ) (h2 : m < qN σ) : qsub (qF (qdbl σ f a b)) l m ↔ qsub (qF σ) l m := by unfold qsub; rw [qd_F h1, qd_F h2]
theorem qd_dis {l m : Nat} (h1 : l < qN σ) (h2 : m < qN σ) : qdis (qF (qdbl σ f a b)) l m ↔ qdis (qF σ) l m := by unfold qdis; rw [qd_F h1, qd_F h2]
theorem qd_lt {l : Nat} (h : l < qN (qdbl σ f a b)) : l < qN σ ∨ l = qN σ := by rw [qd_N] at h; omega
theorem qd_sa (ha : a < qN σ) : qsub (qF (qdbl σ f a b)) a (qN σ) := fun g q => by rw [qd_F ha] at q; exact qd_FN.mpr (Or.inl q)
theorem qd_sb (hb : b < qN σ) : qsub (qF (qdbl σ f a b)) b (qN σ) := fun g q => by rw [qd_F hb] at q; exact qd_FN.mpr (Or.inr q)
theorem qd_top (hN : qN σ < 1000) (hab : a ≠ b) {l : Nat} (h1 : l < qN σ) (h2 : qW (qdbl σ f a b) l = -3) : qW σ l = -3 ∧ l ≠ a ∧ l ≠ b := by
  have q1 : l ≠ a := fun e => by rw [e, qd_Wa hab] at h2; exact nI_n3 (by omega) h2
  have q2 : l ≠ b := fun e => by rw [e, qd_Wb] at h2; exact nI_n3 (by omega) h2
  rw [qd_W h1 q1 q2] at h2
  exact ⟨h2, q1, q2⟩
theorem qd_old (hL : qIL σ) (ha : a < qN σ) (hb : b < qN σ) (ta : qW σ a = -3) (tb : qW σ b = -3) {l : Nat} (h : l < qN σ) : qsub (qF σ) l a ∨ qsub (qF σ) l b ∨ (qdis (qF σ) l a ∧ qdis (qF σ) l b) := by
  by_cases e1 : l = a
  · subst e1; exact Or.inl qsub.rf
  by_cases e2 : l = b
  · subst e2; exact Or.inr (Or.inl qsub.rf)
  rcases hL.2.1 a ha ta l h e1 with q | q
  · exact Or.inl q
  · rcases hL.2.1 b hb tb l h e2 with q2 | q2
    · exact Or.inr (Or.inl q2)
    · exact Or.inr (Or.inr ⟨q, q2⟩)
theorem qd_oldN (hL : qIL σ) (ha : a < qN σ) (hb : b < qN σ) (ta : qW σ a = -3) (tb : qW σ b = -3) {l : Nat} (h : l < qN σ) : qsub (qF (qdbl σ f a b)) l (qN σ) ∨ qdis (qF (qdbl σ f a b)) l (qN σ) := by
  rcases qd_old hL ha hb ta tb h with q | q | ⟨q1, q2⟩
  · exact Or.inl (((qd_sub h ha).mpr q).tr (qd_sa ha))
  · exact Or.inl (((qd_sub h hb).mpr q).tr (qd_sb hb))
  · refine Or.inr (fun g ⟨g1, g2⟩ => ?_)
    rw [qd_F h] at g1
    rcases qd_FN.mp g2 with g3 | g3
    · exact q1 g ⟨g1, g3⟩
    · exact q2 g ⟨g1, g3⟩
/-- no old lake has both tops -/
theorem qd_noN (hL : qIL σ) (ha : a < qN σ) (hb : b < qN σ) (hab : a ≠ b) (ta : qW σ a = -3) (tb : qW σ b = -3) {l : Nat} (h : l < qN σ) : ¬ qsub (qF (qdbl σ f a b)) (qN σ) l := by
  intro hs
  have sa : qsub (qF σ) a l := (qd_sub ha h).mp ((qd_sa ha).tr hs)
  have sb : qsub (qF σ) b l := (qd_sub hb h).mp ((qd_sb hb).tr hs)
  have hd := qtop hL ha hb ta tb hab
  rcases qd_old hL ha hb ta tb h with q | q | ⟨q1, q2⟩
  · exact hd.no (hL.2.2.2 b hb) (sb.tr q) qsub.rf
  · exact hd.no (hL.2.2.2 a ha) qsub.rf (sa.tr q)
  · exact q1.no (hL.2.2.2 a ha) sa qsub.rf
theorem qd_IA (hN : qN σ < 1000) (hA : qIA σ U ld) (ha : a < qN σ) (hb : b < qN σ) (hab : a ≠ b) (ta : qW σ a = -3) (tb : qW σ b = -3) : qIA (qdbl σ f a b) U ld := by
  obtain ⟨a1, a2, a3, a4, a5⟩ := hA
  refine ⟨?_, a2, a3, ?_, ?_⟩
  · intro l hl g hg
    rcases qd_lt hl with q | q
    · rw [qd_F q] at hg; exact a1 l q g hg
    · subst q
      rcases qd_FN.mp hg with q | q
      · exact a1 a ha g q
      · exact a1 b hb g q
  · intro g hg
    rcases a4 g hg with q | ⟨l, q1, q2, q3⟩
    · exact Or.inl q
    · right
      by_cases e1 : l = a
      · exact ⟨qN σ, by rw [qd_N]; omega, qd_WN ha hb, qd_FN.mpr (Or.inl (e1 ▸ q3))⟩
      by_cases e2 : l = b
      · exact ⟨qN σ, by rw [qd_N]; omega, qd_WN ha hb, qd_FN.mpr (Or.inr (e2 ▸ q3))⟩
      · exact ⟨l, by rw [qd_N]; omega, by rw [qd_W q1 e1 e2]; exact q2, by rw [qd_F q1]; exact q3⟩
  · intro l hl hw g hg
    rw [qd_S]
    rcases qd_lt hl with q | q
    · rw [qd_F q] at hg; exact a5 l q (qd_top hN hab q hw).1 g hg
    · subst q
      rcases qd_FN.mp hg with q | q
      · exact a5 a ha ta g q
      · exact a5 b hb tb g q
theorem qd_IL (hN : qN σ < 1000) (hL : qIL σ) (ha : a < qN σ) (hb : b < qN σ) (hab : a ≠ b) (ta : qW σ a = -3) (tb : qW σ b = -3) : qIL (qdbl σ f a b) := by
  refine ⟨?_, ?_, ?_, ?_⟩
  · intro l m hl hm hne
    rcases qd_lt hl with q | q <;> rcases qd_lt hm with q2 | q2
    · rw [qd_dis q q2, qd_sub q q2, qd_sub q2 q]; exact hL.1 l m q q2 hne
    · subst q2
      rcases qd_oldN (f := f) hL ha hb ta tb q with q3 | q3
      · exact Or.inr (Or.inl q3)
      · exact Or.inl q3
    · subst q
      rcases qd_oldN (f := f) hL ha hb ta tb q2 with q3 | q3
      · exact Or.inr (Or.inr q3)
      · exact Or.inl q3.sy
    · omega
  · intro t ht hw l hl hne
    rcases qd_lt ht with q | q <;> rcases qd_lt hl with q2 | q2
    · rw [qd_sub q2 q, qd_dis q2 q]; exact hL.2.1 t q (qd_top hN hab q hw).1 l q2 hne
    · subst q2
      obtain ⟨t1, t2, t3⟩ := qd_top hN hab q hw
      refine Or.inr (fun g ⟨g1, g2⟩ => ?_)
      rw [qd_F q] at g2
      rcases qd_FN.mp g1 with g3 | g3
      · exact qtop hL ha q ta t1 (Ne.symm t2) g ⟨g3, g2⟩
      · exact qtop hL hb q tb t1 (Ne.symm t3) g ⟨g3, g2⟩
    · subst q
      exact qd_oldN hL ha hb ta tb q2
    · omega
  · intro l m hl hm hne hs
    rcases qd_lt hl with q | q <;> rcases qd_lt hm with q2 | q2
    · rw [qd_sub q2 q]; rw [qd_sub q q2] at hs; exact hL.2.2.1 l m q q2 hne hs
    · subst q2; exact qd_noN hL ha hb hab ta tb q
    · subst q; exact absurd hs (qd_noN hL ha hb hab ta tb q2)
    · omega
  · intro l hl
    rcases qd_lt hl with q | q
    · rw [qd_F q]; exact hL.2.2.2 l q
    · subst q
      obtain ⟨g, hg⟩ := hL.2.2.2 a ha
      exact ⟨g, qd_FN.mpr (Or.inl hg)⟩
end DBL
