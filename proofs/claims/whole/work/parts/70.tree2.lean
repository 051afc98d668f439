/-! ===== the steps of the tree keep what holds ===== -/
section DBL2
variable {w n : Nat} {ld : Nat → Bool} {dn : Nat → Int32} {σ : qLS} {U : Nat → Bool} {f a b : Nat}
theorem qd_IW (hN : qN σ < 1000) (hW : qIW w n ld σ) (ha : a < qN σ) (hb : b < qN σ) (hab : a ≠ b) (ta : qW σ a = -3) (tb : qW σ b = -3) (hf : f < n) (hl : ld f = true) (na : ∃ k, k < 4 ∧ ∃ g, nbr w n ld f k = some g ∧ qF σ a g = true) (nb : ∃ k, k < 4 ∧ ∃ g, nbr w n ld f k = some g ∧ qF σ b g = true) : qIW w n ld (qdbl σ f a b) := by
  intro l hl'
  rcases qd_lt hl' with q | q
  · by_cases e1 : l = a
    · subst e1
      refine Or.inr (Or.inr ⟨qN σ, b, f, q, by rw [qd_N]; omega, qd_Wa hab, by rw [qd_N]; omega, Ne.symm hab, qd_Wb, qd_Mb, qd_Ma hab, hf, hl, ?_, ?_⟩)
      · rw [qd_AN, qd_BN]
        rcases Nat.lt_or_ge l b with c | c
        · left; rw [Nat.min_eq_left (by omega), Nat.max_eq_right (by omega)]; exact ⟨rfl, rfl⟩
        · right; rw [Nat.min_eq_right (by omega), Nat.max_eq_left (by omega)]; exact ⟨rfl, rfl⟩
      · rw [qd_F q]; exact na
    by_cases e2 : l = b
    · subst e2
      refine Or.inr (Or.inr ⟨qN σ, a, f, q, by rw [qd_N]; omega, qd_Wb, by rw [qd_N]; omega, hab, qd_Wa hab, qd_Ma hab, qd_Mb, hf, hl, ?_, ?_⟩)
      · rw [qd_AN, qd_BN]
        rcases Nat.lt_or_ge a l with c | c
        · right; rw [Nat.min_eq_left (by omega), Nat.max_eq_right (by omega)]; exact ⟨rfl, rfl⟩
        · left; rw [Nat.min_eq_right (by omega), Nat.max_eq_left (by omega)]; exact ⟨rfl, rfl⟩
      · rw [qd_F q]; exact nb
    rw [qd_W q e1 e2, qd_M q e1 e2, qd_F q]
    rcases hW l q with c | c | ⟨m, o, r, c1, c2, c3, c4, c5, c6, c7, c8, c9, c10, c11, c12⟩
    · exact Or.inl c
    · exact Or.inr (Or.inl c)
    · have o1 : o ≠ a := fun e => by rw [e, ta] at c6; exact nI_n3 (by omega) c6.symm
      have o2 : o ≠ b := fun e => by rw [e, tb] at c6; exact nI_n3 (by omega) c6.symm
      refine Or.inr (Or.inr ⟨m, o, r, c1, by rw [qd_N]; omega, c3, by rw [qd_N]; omega, c5, ?_, ?_, c8, c9, c10, ?_, c12⟩)
      · rw [qd_W c4 o1 o2]; exact c6
      · rw [qd_M c4 o1 o2]; exact c7
      · rw [qd_A c2, qd_B c2]; exact c11
  · subst q
    exact Or.inl ⟨qd_WN ha hb, qd_MN ha hb⟩
theorem qd_IB (hN : qN σ < 1000) (hL : qIL σ) (hD : qIB σ) (ha : a < qN σ) (hb : b < qN σ) (hab : a ≠ b) (ta : qW σ a = -3) (tb : qW σ b = -3) : qIB (qdbl σ f a b) := by
  have new : ∀ l, l < qN (qdbl σ f a b) → l ≠ qN σ → qsub (qF (qdbl σ f a b)) l (qN σ) → qsub (qF (qdbl σ f a b)) l a ∨ qsub (qF (qdbl σ f a b)) l b := by
    intro l hl' hne hs
    rcases qd_lt hl' with p | p
    · rw [qd_sub p ha, qd_sub p hb]
      rcases qd_old hL ha hb ta tb p with q | q | ⟨q1, q2⟩
      · exact Or.inl q
      · exact Or.inr q
      · exfalso
        obtain ⟨g, hg⟩ := hL.2.2.2 l p
        have := hs g (by rw [qd_F p]; exact hg)
        rcases qd_FN.mp this with g3 | g3
        · exact q1 g ⟨hg, g3⟩
        · exact q2 g ⟨hg, g3⟩
    · exact absurd p hne
  intro m hm
  rcases qd_lt hm with q | q
  · rw [qd_A q, qd_B q]
    rcases hD m q with c | ⟨x, y, c1, c2, c3, c4, c5, c6, c7, c8, c9, c10⟩
    · exact Or.inl c
    · have x1 : x ≠ a := fun e => by rw [e, ta] at c5; exact nI_n3 (by omega) c5.symm
      have x2 : x ≠ b := fun e => by rw [e, tb] at c5; exact nI_n3 (by omega) c5.symm
      have y1 : y ≠ a := fun e => by rw [e, ta] at c6; exact nI_n3 (by omega) c6.symm
      have y2 : y ≠ b := fun e => by rw [e, tb] at c6; exact nI_n3 (by omega) c6.symm
      have xN : x < qN σ := by omega
      have yN : y < qN σ := by omega
      refine Or.inr ⟨x, y, c1, c2, c3, c4, ?_, ?_, ?_, ?_, ?_, ?_⟩
      · rw [qd_W xN x1 x2]; exact c5
      · rw [qd_W yN y1 y2]; exact c6
      · rw [qd_sub xN q]; exact c7
      · rw [qd_sub yN q]; exact c8
      · rw [qd_dis xN yN]; exact c9
      · intro l hl' hne hs
        rcases qd_lt hl' with p | p
        · rw [qd_sub p xN, qd_sub p yN]
          rw [qd_sub p q] at hs
          exact c10 l p hne hs
        · subst p
          exact absurd hs (qd_noN hL ha hb hab ta tb q)
  · subst q
    right
    rcases Nat.lt_or_ge a b with c | c
    · refine ⟨a, b, c, hb, by rw [qd_AN, Nat.min_eq_left (by omega)], by rw [qd_BN, Nat.max_eq_right (by omega)], qd_Wa hab, qd_Wb, qd_sa ha, qd_sb hb, ?_, new⟩
      rw [qd_dis ha hb]; exact qtop hL ha hb ta tb hab
    · refine ⟨b, a, by omega, ha, by rw [qd_AN, Nat.min_eq_right (by omega)], by rw [qd_BN, Nat.max_eq_left (by omega)], qd_Wb, qd_Wa hab, qd_sb hb, qd_sa ha, ?_, fun l h1 h2 h3 => (new l h1 h2 h3).symm⟩
      rw [qd_dis hb ha]; exact qtop hL hb ha tb ta (Ne.symm hab)
/-- a top lies in no other lake -/
theorem top_in (hL : qIL σ) {t x : Nat} (ht : t < qN σ) (wt : qW σ t = -3) (hx : x < qN σ) (hne : x ≠ t) : ¬ qsub (qF σ) t x := by
  intro hs
  rcases hL.2.1 t ht wt x hx hne with q | q
  · exact hL.2.2.1 x t hx ht hne q hs
  · exact q.no (hL.2.2.2 t ht) hs qsub.rf
theorem qd_IT (hN : qN σ < 1000) (hL : qIL σ) (hW : qIW w n ld σ) (hT : qIT σ) (ha : a < qN σ) (hb : b < qN σ) (hab : a ≠ b) (ta : qW σ a = -3) (tb : qW σ b = -3) : qIT (qdbl σ f a b) := by
  intro l m x hl hm hw hx hne hs
  rw [qd_N] at hm
  rcases qd_lt hl with q | q
  · by_cases e1 : l = a
    · subst e1
      rw [qd_Wa hab] at hw
      have := nI_inj (by omega) (by omega) hw
      subst this
      rcases qd_lt hx with p | p
      · rw [qd_sub q p] at hs
        exact absurd hs (top_in hL q ta p hne)
      · subst p; exact qsub.rf
    by_cases e2 : l = b
    · subst e2
      rw [qd_Wb] at hw
      have := nI_inj (by omega) (by omega) hw
      subst this
      rcases qd_lt hx with p | p
      · rw [qd_sub q p] at hs
        exact absurd hs (top_in hL q tb p hne)
      · subst p; exact qsub.rf
    rw [qd_W q e1 e2] at hw
    have hmN : m < qN σ := by
      rcases hW l q with c | c | ⟨m2, o, r, c1, c2, c3, -⟩
      · rw [c.1] at hw; exact absurd hw.symm (nI_n3 (by omega))
      · rw [c.1] at hw; exact absurd hw.symm (nI_n5 (by omega))
      · rw [c3] at hw
        have := nI_inj (by omega) (by omega) hw
        omega
    rcases qd_lt hx with p | p
    · rw [qd_sub hmN p]
      rw [qd_sub q p] at hs
      exact hT l m x q hmN hw p hne hs
    · subst p
      rcases qd_old hL ha hb ta tb q with c | c | ⟨c1, c2⟩
      · exact ((qd_sub hmN ha).mpr (hT l m a q hmN hw ha (Ne.symm e1) c)).tr (qd_sa ha)
      · exact ((qd_sub hmN hb).mpr (hT l m b q hmN hw hb (Ne.symm e2) c)).tr (qd_sb hb)
      · exfalso
        obtain ⟨g, hg⟩ := hL.2.2.2 l q
        have := hs g (by rw [qd_F q]; exact hg)
        rcases qd_FN.mp this with g3 | g3
        · exact c1 g ⟨hg, g3⟩
        · exact c2 g ⟨hg, g3⟩
  · subst q
    rw [qd_WN ha hb] at hw
    exact absurd hw.symm (nI_n3 (by omega))
theorem qd_ID (hI : qID n dn σ) (ha : a < qN σ) (hb : b < qN σ) : qID n dn (qdbl σ f a b) := by
  intro l hl g hg
  rcases qd_lt hl with q | q
  · rw [qd_F q] at hg ⊢
    exact hI l q g hg
  · subst q
    rcases qd_FN.mp hg with c | c
    · exact ⟨(hI a ha g c).1, fun x hx e => qd_FN.mpr (Or.inl ((hI a ha g c).2 x hx e))⟩
    · exact ⟨(hI b hb g c).1, fun x hx e => qd_FN.mpr (Or.inr ((hI b hb g c).2 x hx e))⟩
theorem qd_IH (hI : qIH dn σ U) : qIH dn (qdbl σ f a b) U := by
  intro z h1 h2
  obtain ⟨s, s1, s2, s3⟩ := hI z h1 h2
  exact ⟨s, by rw [qd_N]; omega, by rw [qd_A s1]; exact s2, by rw [qd_F s1]; exact s3⟩
theorem qd_IC (hN : qN σ < 1000) (hI : qIC w n ld σ U) (ha : a < qN σ) (hb : b < qN σ) (hab : a ≠ b) (ta : qW σ a = -3) (tb : qW σ b = -3) : qIC w n ld (qdbl σ f a b) U := by
  intro t ht hw g hg k hk
  rcases qd_lt ht with q | q
  · rw [qd_F q] at hg ⊢
    exact hI t q (qd_top hN hab q hw).1 g hg k hk
  · subst q
    rcases qd_FN.mp hg with c | c
    · exact ⟨(hI a ha ta g c k hk).1, fun x e u => qd_FN.mpr (Or.inl ((hI a ha ta g c k hk).2 x e u))⟩
    · exact ⟨(hI b hb tb g c k hk).1, fun x e u => qd_FN.mpr (Or.inr ((hI b hb tb g c k hk).2 x e u))⟩
theorem qd_IN (hN : qN σ < 1000) (hI : qIN n dn σ U) (ha : a < qN σ) (hb : b < qN σ) (hab : a ≠ b) (ta : qW σ a = -3) (tb : qW σ b = -3) : qIN n dn (qdbl σ f a b) U := by
  obtain ⟨h1, h2⟩ := hI
  have e1 : fb_ct (fun l => decide (qA (qdbl σ f a b) l = -3)) (qN (qdbl σ f a b)) = fb_ct (fun l => decide (qA σ l = -3)) (qN σ) := by
    rw [qd_N, fb_ct_succ, qd_AN, if_neg (by simp [nI_n3 (show min a b < 2147483648 by omega)]), Nat.add_zero]
    exact fb_ct_cong (fun k hk => by rw [qd_A hk])
  have u1 := fb_ct_upd (qR (qW σ)) false ha
  have u2 := fb_ct_upd (fun k => if k = a then false else qR (qW σ) k) false hb
  have ra : qR (qW σ) a = true := by unfold qR; simp [ta]
  have rb : qR (qW σ) b = true := by unfold qR; simp [tb]
  rw [if_neg (Ne.symm hab), rb, if_pos rfl, if_neg (by decide)] at u2
  rw [ra, if_pos rfl, if_neg (by decide)] at u1
  have e2 : fb_ct (qR (qW (qdbl σ f a b))) (qN σ) = fb_ct (fun k => if k = b then false else if k = a then false else qR (qW σ) k) (qN σ) := by
    refine fb_ct_cong (fun k hk => ?_)
    by_cases c1 : k = b
    · rw [if_pos c1]
      unfold qR
      rw [c1, qd_Wb]
      simp [nI_n3 (show qN σ < 2147483648 by omega), nI_n5 (show qN σ < 2147483648 by omega)]
    · rw [if_neg c1]
      by_cases c2 : k = a
      · rw [if_pos c2]
        unfold qR
        rw [c2, qd_Wa hab]
        simp [nI_n3 (show qN σ < 2147483648 by omega), nI_n5 (show qN σ < 2147483648 by omega)]
      · rw [if_neg c2]
        unfold qR
        rw [qd_W hk c2 c1]
  have e3 : fb_ct (qR (qW (qdbl σ f a b))) (qN (qdbl σ f a b)) = fb_ct (qR (qW (qdbl σ f a b))) (qN σ) + 1 := by
    rw [qd_N, fb_ct_succ, if_pos (by unfold qR; rw [qd_WN ha hb]; simp)]
  rw [qIN, e1, e3, e2, qd_N]
  exact ⟨h1, by omega⟩
theorem qd_Inv (hN : qN σ < 1000) (hI : qInv w n ld dn σ U) (ha : a < qN σ) (hb : b < qN σ) (hab : a ≠ b) (ta : qW σ a = -3) (tb : qW σ b = -3) (hf : f < n) (hl : ld f = true) (na : ∃ k, k < 4 ∧ ∃ g, nbr w n ld f k = some g ∧ qF σ a g = true) (nb : ∃ k, k < 4 ∧ ∃ g, nbr w n ld f k = some g ∧ qF σ b g = true) : qInv w n ld dn (qdbl σ f a b) U := by
  obtain ⟨i1, i2, i3, i4, i5, i6, i7, i8, i9⟩ := hI
  exact ⟨qd_IA hN i1 ha hb hab ta tb, qd_IL hN i2 ha hb hab ta tb, qd_IW hN i3 ha hb hab ta tb hf hl na nb, qd_IB hN i2 i4 ha hb hab ta tb, qd_IT hN i2 i3 i5 ha hb hab ta tb, qd_ID i6 ha hb, qd_IH i7, qd_IC hN i8 ha hb hab ta tb, qd_IN hN i9 ha hb hab ta tb⟩
end DBL2
section SPL
variable {w n : Nat} {ld : Nat → Bool} {dn : Nat → Int32} {σ : qLS} {U : Nat → Bool} {f l : Nat}
theorem qs_W {k : Nat} (h : k ≠ l) : qW (qspl σ f l) k = qW σ k := va_up_ne (qW σ) (-5) h
theorem qs_Wl : qW (qspl σ f l) l = -5 := va_up_self (qW σ) l (-5)
theorem qs_M {k : Nat} (h : k ≠ l) : qM (qspl σ f l) k = qM σ k := va_up_ne (qM σ) (nI f) h
theorem qs_Ml : qM (qspl σ f l) l = nI f := va_up_self (qM σ) l (nI f)
theorem qs_top {k : Nat} (h : qW (qspl σ f l) k = -3) : k ≠ l ∧ qW σ k = -3 := by
  have : k ≠ l := fun e => by rw [e, qs_Wl] at h; exact absurd h (by decide)
  rw [qs_W this] at h
  exact ⟨this, h⟩
theorem qs_Inv (hN : qN σ < 1000) (hI : qInv w n ld dn σ U) (hl : l < qN σ) (tl : qW σ l = -3) (hf : f < n) (hlf : ld f = true) : qInv w n ld dn (qspl σ f l) U := by
  obtain ⟨⟨a1, a2, a3, a4, a5⟩, i2, i3, i4, i5, i6, i7, i8, i9⟩ := hI
  have eN : qN (qspl σ f l) = qN σ := rfl
  have eF : qF (qspl σ f l) = qF σ := rfl
  have eA : qA (qspl σ f l) = qA σ := rfl
  have eB : qB (qspl σ f l) = qB σ := rfl
  have eS : ∀ g, qS (qspl σ f l) g = (qS σ g || qF σ l g) := fun _ => rfl
  refine ⟨⟨a1, ?_, a3, ?_, ?_⟩, ⟨i2.1, fun t ht wt => i2.2.1 t ht (qs_top wt).2, i2.2.2.1, i2.2.2.2⟩, ?_, ?_, ?_, i6, i7, ?_, ?_⟩
  · intro g hg
    rw [eS, Bool.or_eq_true] at hg
    rcases hg with q | q
    · exact a2 g q
    · exact a1 l hl g q
  · intro g hg
    rcases a4 g hg with q | ⟨k, q1, q2, q3⟩
    · exact Or.inl (by rw [eS, q]; rfl)
    · by_cases e : k = l
      · exact Or.inl (by rw [eS, ← e, q3, Bool.or_true])
      · exact Or.inr ⟨k, q1, by rw [qs_W e]; exact q2, q3⟩
  · intro t ht wt g hg
    obtain ⟨t1, t2⟩ := qs_top wt
    rw [eS, a5 t ht t2 g hg, Bool.false_or]
    cases c : qF σ l g with
    | false => rfl
    | true => exact absurd ⟨hg, c⟩ (qtop i2 ht hl t2 tl t1 g)
  · intro k hk
    by_cases e : k = l
    · subst e
      exact Or.inr (Or.inl ⟨qs_Wl, f, qs_Ml, hf, hlf⟩)
    · rw [qs_W e, qs_M e]
      rcases i3 k hk with c | c | ⟨m, o, r, c1, c2, c3, c4, c5, c6, c7, c8, c9, c10, c11, c12⟩
      · exact Or.inl c
      · exact Or.inr (Or.inl c)
      · have o1 : o ≠ l := fun e => by rw [e, tl] at c6; exact nI_n3 (by omega) c6.symm
        exact Or.inr (Or.inr ⟨m, o, r, c1, c2, c3, c4, c5, by rw [qs_W o1]; exact c6, by rw [qs_M o1]; exact c7, c8, c9, c10, c11, c12⟩)
  · intro m hm
    rcases i4 m hm with c | ⟨x, y, c1, c2, c3, c4, c5, c6, c7⟩
    · exact Or.inl c
    · have x1 : x ≠ l := fun e => by rw [e, tl] at c5; exact nI_n3 (by have : m < qN σ := hm; omega) c5.symm
      have y1 : y ≠ l := fun e => by rw [e, tl] at c6; exact nI_n3 (by have : m < qN σ := hm; omega) c6.symm
      exact Or.inr ⟨x, y, c1, c2, c3, c4, by rw [qs_W x1]; exact c5, by rw [qs_W y1]; exact c6, c7⟩
  · intro k m x hk hm hw hx hne hs
    have e : k ≠ l := fun e => by rw [e, qs_Wl] at hw; exact nI_n5 (by have : m < qN σ := hm; omega) hw.symm
    rw [qs_W e] at hw
    exact i5 k m x hk hm hw hx hne hs
  · intro t ht wt
    exact i8 t ht (qs_top wt).2
  · refine ⟨i9.1, ?_⟩
    have : fb_ct (qR (qW (qspl σ f l))) (qN (qspl σ f l)) = fb_ct (qR (qW σ)) (qN σ) := by
      refine fb_ct_cong (fun k _ => ?_)
      unfold qR
      by_cases e : k = l
      · subst e; rw [qs_Wl, tl]; rfl
      · rw [qs_W e]
    rw [this]
    exact i9.2
theorem qe_Inv (hz : Sz w n ld) (hI : qInv w n ld dn σ U) (hU : U f = false) (hlf : ld f = true) (hd : ¬ dn f = -3) (hno : ∀ t, t < qN σ → qW σ t = -3 → ∀ k, k < 4 → ∀ g, nbr w n ld f k = some g → ¬ qF σ t g = true) : qInv w n ld dn (qsel σ f) (quf U f) := by
  obtain ⟨⟨a1, a2, a3, a4, a5⟩, i2, i3, i4, i5, i6, i7, i8, i9⟩ := hI
  have eS : ∀ g, qS (qsel σ f) g = (qS σ g || decide (g = f)) := fun _ => rfl
  have nf : ∀ t, t < qN σ → ¬ qF σ t f = true := fun t ht q => by have := a1 t ht f q; rw [hU] at this; cases this
  refine ⟨⟨fun k hk g hg => quf_of (a1 k hk g hg), ?_, ?_, ?_, ?_⟩, i2, i3, i4, i5, i6, ?_, ?_, ?_, i9.2⟩
  · intro g hg
    rw [eS, Bool.or_eq_true, decide_eq_true_iff] at hg
    rcases hg with q | q
    · exact quf_of (a2 g q)
    · rw [q]; exact quf_self
  · intro g hg
    rcases quf_cases hg with q | q
    · exact a3 g q
    · rw [q]; exact hlf
  · intro g hg
    rcases quf_cases hg with q | q
    · rcases a4 g q with c | c
      · exact Or.inl (by rw [eS, c]; rfl)
      · exact Or.inr c
    · exact Or.inl (by rw [eS, q]; simp)
  · intro t ht wt g hg
    have : g ≠ f := fun e => nf t ht (e ▸ hg)
    rw [eS, a5 t ht wt g hg]
    simp [this]
  · intro z h1 h2
    rcases quf_cases h1 with q | q
    · exact i7 z q h2
    · rw [q] at h2; exact absurd h2 hd
  · intro t ht wt g hg k hk
    refine ⟨(i8 t ht wt g hg k hk).1, fun x hx hu => ?_⟩
    rcases quf_cases hu with q | q
    · exact (i8 t ht wt g hg k hk).2 x hx q
    · subst q
      obtain ⟨k', k1, k2⟩ := nbr_sym hz (a3 g (a1 t ht g hg)) hk hx
      exact absurd hg (hno t ht wt k' k1 g k2)
  · show fb_ct (fun l => decide (qA σ l = -3)) (qN σ) = _
    rw [i9.1]
    refine fb_ct_cong (fun z _ => ?_)
    by_cases e : z = f
    · subst e
      rw [hU]
      simp [hd]
    · simp [quf, e]
end SPL
