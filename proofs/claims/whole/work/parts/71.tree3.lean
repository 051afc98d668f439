/-! ===== a field goes under: a new lake of one field; a field comes to a top ===== -/
section SGL
variable {w n : Nat} {ld : Nat → Bool} {dn : Nat → Int32} {σ : qLS} {U : Nat → Bool} {f t : Nat}
theorem qg_F {l : Nat} (h : l < qN σ) : qF (qsgl σ f) l = qF σ l := va_up_ne _ _ (by omega)
theorem qg_FN {g : Nat} : qF (qsgl σ f) (qN σ) g = true ↔ g = f := by
  have : qF (qsgl σ f) (qN σ) = fun g => decide (g = f) := va_up_self _ _ _
  rw [this]
  simp
theorem qg_N : qN (qsgl σ f) = qN σ + 1 := rfl
theorem qg_lt {l : Nat} (h : l < qN (qsgl σ f)) : l < qN σ ∨ l = qN σ := by rw [qg_N] at h; omega
theorem qg_W {l : Nat} (h : l < qN σ) : qW (qsgl σ f) l = qW σ l := va_up_ne _ _ (by omega)
theorem qg_WN : qW (qsgl σ f) (qN σ) = -3 := va_up_self _ _ _
theorem qg_M {l : Nat} (h : l < qN σ) : qM (qsgl σ f) l = qM σ l := va_up_ne _ _ (by omega)
theorem qg_MN : qM (qsgl σ f) (qN σ) = -3 := va_up_self _ _ _
theorem qg_A {l : Nat} (h : l < qN σ) : qA (qsgl σ f) l = qA σ l := va_up_ne _ _ (by omega)
theorem qg_AN : qA (qsgl σ f) (qN σ) = -3 := va_up_self _ _ _
theorem qg_B {l : Nat} (h : l < qN σ) : qB (qsgl σ f) l = qB σ l := va_up_ne _ _ (by omega)
theorem qg_BN : qB (qsgl σ f) (qN σ) = -3 := va_up_self _ _ _
theorem qg_sub {l m : Nat} (h1 : l < qN σ) (h2 : m < qN σ) : qsub (qF (qsgl σ f)) l m ↔ qsub (qF σ) l m := by unfold qsub; rw [qg_F h1, qg_F h2]
theorem qg_dis {l m : Nat} (h1 : l < qN σ) (h2 : m < qN σ) : qdis (qF (qsgl σ f)) l m ↔ qdis (qF σ) l m := by unfold qdis; rw [qg_F h1, qg_F h2]
theorem qg_Inv (hN : qN σ < 1000) (hz : Sz w n ld) (hI : qInv w n ld dn σ U) (hU : U f = false) (hlf : ld f = true) (hd : dn f = -3) (hnn : ∀ k, k < 4 → nbr w n ld f k ≠ none) (hno : ∀ k, k < 4 → ∀ g, nbr w n ld f k = some g → U g = false) : qInv w n ld dn (qsgl σ f) (quf U f) := by
  obtain ⟨⟨a1, a2, a3, a4, a5⟩, i2, i3, i4, i5, i6, i7, i8, i9⟩ := hI
  have hfn : f < n := hz.2.2.2.2 f hlf
  have nf : ∀ l, l < qN σ → ¬ qF σ l f = true := fun l hl q => by have := a1 l hl f q; rw [hU] at this; cases this
  have eS : qS (qsgl σ f) = qS σ := rfl
  have dN : ∀ l, l < qN σ → qdis (qF (qsgl σ f)) l (qN σ) := by
    intro l hl g ⟨g1, g2⟩
    rw [qg_F hl] at g1
    rw [qg_FN] at g2
    exact nf l hl (g2 ▸ g1)
  have hex : ∃ g, qF (qsgl σ f) (qN σ) g = true := ⟨f, qg_FN.mpr rfl⟩
  have ne' : ∀ l, l < qN σ → ∃ g, qF (qsgl σ f) l g = true := fun l hl => by rw [qg_F hl]; exact i2.2.2.2 l hl
  refine ⟨⟨?_, ?_, ?_, ?_, ?_⟩, ⟨?_, ?_, ?_, ?_⟩, ?_, ?_, ?_, ?_, ?_, ?_, ?_⟩
  · intro l hl g hg
    rcases qg_lt hl with q | q
    · rw [qg_F q] at hg; exact quf_of (a1 l q g hg)
    · subst q; rw [qg_FN] at hg; rw [hg]; exact quf_self
  · intro g hg; exact quf_of (a2 g hg)
  · intro g hg
    rcases quf_cases hg with q | q
    · exact a3 g q
    · rw [q]; exact hlf
  · intro g hg
    rcases quf_cases hg with q | q
    · rcases a4 g q with c | ⟨l, c1, c2, c3⟩
      · exact Or.inl c
      · exact Or.inr ⟨l, by rw [qg_N]; omega, by rw [qg_W c1]; exact c2, by rw [qg_F c1]; exact c3⟩
    · exact Or.inr ⟨qN σ, by rw [qg_N]; omega, qg_WN, qg_FN.mpr q⟩
  · intro l hl hw g hg
    rw [eS]
    rcases qg_lt hl with q | q
    · rw [qg_W q] at hw; rw [qg_F q] at hg; exact a5 l q hw g hg
    · subst q; rw [qg_FN] at hg; subst hg
      cases c : qS σ g with
      | false => rfl
      | true => rw [a2 g c] at hU; cases hU
  · intro l m hl hm hne
    rcases qg_lt hl with q | q <;> rcases qg_lt hm with q2 | q2
    · rw [qg_dis q q2, qg_sub q q2, qg_sub q2 q]; exact i2.1 l m q q2 hne
    · subst q2; exact Or.inl (dN l q)
    · subst q; exact Or.inl (dN m q2).sy
    · omega
  · intro t ht hw l hl hne
    rcases qg_lt ht with q | q <;> rcases qg_lt hl with q2 | q2
    · rw [qg_sub q2 q, qg_dis q2 q]; rw [qg_W q] at hw; exact i2.2.1 t q hw l q2 hne
    · subst q2; exact Or.inr (dN t q).sy
    · subst q; exact Or.inr (dN l q2)
    · omega
  · intro l m hl hm hne hs
    rcases qg_lt hl with q | q <;> rcases qg_lt hm with q2 | q2
    · rw [qg_sub q2 q]; rw [qg_sub q q2] at hs; exact i2.2.2.1 l m q q2 hne hs
    · subst q2; exact absurd ((dN l q).no (ne' l q) qsub.rf hs) id
    · subst q; exact absurd ((dN m q2).no hex hs qsub.rf) id
    · omega
  · intro l hl
    rcases qg_lt hl with q | q
    · exact ne' l q
    · subst q; exact hex
  · intro l hl
    rcases qg_lt hl with q | q
    · rw [qg_W q, qg_M q, qg_F q]
      rcases i3 l q with c | c | ⟨m, o, r, c1, c2, c3, c4, c5, c6, c7, c8, c9, c10, c11, c12⟩
      · exact Or.inl c
      · exact Or.inr (Or.inl c)
      · exact Or.inr (Or.inr ⟨m, o, r, c1, by rw [qg_N]; omega, c3, by rw [qg_N]; omega, c5, by rw [qg_W c4]; exact c6, by rw [qg_M c4]; exact c7, c8, c9, c10, by rw [qg_A c2, qg_B c2]; exact c11, c12⟩)
    · subst q; exact Or.inl ⟨qg_WN, qg_MN⟩
  · intro m hm
    rcases qg_lt hm with q | q
    · rw [qg_A q, qg_B q]
      rcases i4 m q with c | ⟨x, y, c1, c2, c3, c4, c5, c6, c7, c8, c9, c10⟩
      · exact Or.inl c
      · have xN : x < qN σ := by omega
        have yN : y < qN σ := by omega
        refine Or.inr ⟨x, y, c1, c2, c3, c4, by rw [qg_W xN]; exact c5, by rw [qg_W yN]; exact c6, by rw [qg_sub xN q]; exact c7, by rw [qg_sub yN q]; exact c8, by rw [qg_dis xN yN]; exact c9, ?_⟩
        intro l hl hne hs
        rcases qg_lt hl with p | p
        · rw [qg_sub p xN, qg_sub p yN]; rw [qg_sub p q] at hs; exact c10 l p hne hs
        · subst p; exact absurd ((dN m q).no hex hs qsub.rf) id
    · subst q; exact Or.inl ⟨qg_AN, qg_BN⟩
  · intro l m x hl hm hw hx hne hs
    rw [qg_N] at hm
    rcases qg_lt hl with q | q
    · rw [qg_W q] at hw
      have hmN : m < qN σ := by
        rcases i3 l q with c | c | ⟨m2, o, r, c1, c2, c3, -⟩
        · rw [c.1] at hw; exact absurd hw.symm (nI_n3 (by omega))
        · rw [c.1] at hw; exact absurd hw.symm (nI_n5 (by omega))
        · rw [c3] at hw
          have := nI_inj (by omega) (by omega) hw
          omega
      rcases qg_lt hx with p | p
      · rw [qg_sub hmN p]; rw [qg_sub q p] at hs; exact i5 l m x q hmN hw p hne hs
      · subst p; exact absurd ((dN l q).no (ne' l q) qsub.rf hs) id
    · subst q; rw [qg_WN] at hw; exact absurd hw.symm (nI_n3 (by omega))
  · intro l hl g hg
    rcases qg_lt hl with q | q
    · rw [qg_F q] at hg ⊢; exact i6 l q g hg
    · subst q; rw [qg_FN] at hg; subst hg
      rw [hd]
      exact ⟨by decide, fun a ha e => absurd e.symm (nI_n3 (by have := hz.2.2.1; omega))⟩
  · intro z h1 h2
    rcases quf_cases h1 with q | q
    · obtain ⟨s, s1, s2, s3⟩ := i7 z q h2
      exact ⟨s, by rw [qg_N]; omega, by rw [qg_A s1]; exact s2, by rw [qg_F s1]; exact s3⟩
    · exact ⟨qN σ, by rw [qg_N]; omega, qg_AN, qg_FN.mpr q⟩
  · intro t ht wt g hg k hk
    rcases qg_lt ht with q | q
    · rw [qg_W q] at wt; rw [qg_F q] at hg ⊢
      refine ⟨(i8 t q wt g hg k hk).1, fun x hx hu => ?_⟩
      rcases quf_cases hu with c | c
      · exact (i8 t q wt g hg k hk).2 x hx c
      · subst c
        obtain ⟨k', k1, k2⟩ := nbr_sym hz (a3 g (a1 t q g hg)) hk hx
        have := hno k' k1 g k2
        rw [a1 t q g hg] at this
        cases this
    · subst q; rw [qg_FN] at hg; subst hg
      refine ⟨hnn k hk, fun x hx hu => ?_⟩
      rcases quf_cases hu with c | c
      · rw [hno k hk x hx] at c; cases c
      · exact qg_FN.mpr c
  · obtain ⟨h1, h2⟩ := i9
    have e1 : fb_ct (fun l => decide (qA (qsgl σ f) l = -3)) (qN (qsgl σ f)) = fb_ct (fun l => decide (qA σ l = -3)) (qN σ) + 1 := by
      rw [qg_N, fb_ct_succ, qg_AN, if_pos (by decide)]
      rw [fb_ct_cong (fun k hk => by rw [qg_A hk])]
    have e2 : fb_ct (qR (qW (qsgl σ f))) (qN (qsgl σ f)) = fb_ct (qR (qW σ)) (qN σ) + 1 := by
      rw [qg_N, fb_ct_succ, if_pos (by unfold qR; rw [qg_WN]; simp)]
      exact congrArg (· + 1) (fb_ct_cong (fun k hk => by unfold qR; rw [qg_W hk]))
    have e3 : fb_ct (fun z => quf U f z && decide (dn z = -3)) n = fb_ct (fun z => U z && decide (dn z = -3)) n + 1 := by
      have u := fb_ct_upd (fun z => U z && decide (dn z = -3)) true hfn
      rw [hU] at u
      simp at u
      rw [← u]
      refine fb_ct_cong (fun z hz' => ?_)
      by_cases e : z = f
      · subst e; simp [quf, hd]
      · simp [quf, e]
    rw [qIN, e1, e2, e3, qg_N]
    exact ⟨by omega, by omega⟩
theorem qf_F {l : Nat} (h : l ≠ t) : qF (qadf σ f t) l = qF σ l := va_up_ne _ _ h
theorem qf_Ft {g : Nat} : qF (qadf σ f t) t g = true ↔ (qF σ t g = true ∨ g = f) := by
  have : qF (qadf σ f t) t = fun g => qF σ t g || decide (g = f) := va_up_self _ _ _
  rw [this]
  simp
theorem qf_mono {l g : Nat} (h : qF σ l g = true) : qF (qadf σ f t) l g = true := by
  by_cases e : l = t
  · subst e; exact qf_Ft.mpr (Or.inl h)
  · rw [qf_F e]; exact h
theorem qf_Inv (hN : qN σ < 1000) (hz : Sz w n ld) (hI : qInv w n ld dn σ U) (hU : U f = false) (hlf : ld f = true) (ht : t < qN σ) (wt : qW σ t = -3) (hd : ¬ dn f = -3) (hd5 : ¬ dn f = -5) (hda : ∀ a, a < n → dn f = nI a → qF σ t a = true) (hnn : ∀ k, k < 4 → nbr w n ld f k ≠ none) (hun : ∀ k, k < 4 → ∀ g, nbr w n ld f k = some g → U g = true → qF σ t g = true) : qInv w n ld dn (qadf σ f t) (quf U f) := by
  obtain ⟨⟨a1, a2, a3, a4, a5⟩, i2, i3, i4, i5, i6, i7, i8, i9⟩ := hI
  have hfn : f < n := hz.2.2.2.2 f hlf
  have nf : ∀ l, l < qN σ → ¬ qF σ l f = true := fun l hl q => by have := a1 l hl f q; rw [hU] at this; cases this
  have eN : qN (qadf σ f t) = qN σ := rfl
  have eS : qS (qadf σ f t) = qS σ := rfl
  have eW : qW (qadf σ f t) = qW σ := rfl
  have eM : qM (qadf σ f t) = qM σ := rfl
  have eA : qA (qadf σ f t) = qA σ := rfl
  have eB : qB (qadf σ f t) = qB σ := rfl
  have s1 : ∀ l m, l ≠ t → m ≠ t → (qsub (qF (qadf σ f t)) l m ↔ qsub (qF σ) l m) := fun l m h1 h2 => by unfold qsub; rw [qf_F h1, qf_F h2]
  have s2 : ∀ l, l < qN σ → l ≠ t → (qsub (qF (qadf σ f t)) l t ↔ qsub (qF σ) l t) := by
    intro l hl hne
    constructor
    · intro h g hg
      rcases qf_Ft.mp (h g (by rw [qf_F hne]; exact hg)) with q | q
      · exact q
      · exact absurd (q ▸ hg) (nf l hl)
    · intro h g hg
      rw [qf_F hne] at hg
      exact qf_Ft.mpr (Or.inl (h g hg))
  have s3 : ∀ m, m < qN σ → m ≠ t → ¬ qsub (qF (qadf σ f t)) t m := by
    intro m hm hne h
    have := h f (qf_Ft.mpr (Or.inr rfl))
    rw [qf_F hne] at this
    exact nf m hm this
  have d1 : ∀ l m, l ≠ t → m ≠ t → (qdis (qF (qadf σ f t)) l m ↔ qdis (qF σ) l m) := fun l m h1 h2 => by unfold qdis; rw [qf_F h1, qf_F h2]
  have d2 : ∀ l, l < qN σ → l ≠ t → qdis (qF σ) l t → qdis (qF (qadf σ f t)) l t := by
    intro l hl hne h g ⟨g1, g2⟩
    rw [qf_F hne] at g1
    rcases qf_Ft.mp g2 with q | q
    · exact h g ⟨g1, q⟩
    · exact nf l hl (q ▸ g1)
  refine ⟨⟨?_, ?_, ?_, ?_, ?_⟩, ⟨?_, ?_, ?_, ?_⟩, ?_, ?_, ?_, ?_, ?_, ?_, ?_⟩
  · intro l hl g hg
    by_cases e : l = t
    · subst e
      rcases qf_Ft.mp hg with q | q
      · exact quf_of (a1 l hl g q)
      · rw [q]; exact quf_self
    · rw [qf_F e] at hg; exact quf_of (a1 l hl g hg)
  · intro g hg; exact quf_of (a2 g hg)
  · intro g hg
    rcases quf_cases hg with q | q
    · exact a3 g q
    · rw [q]; exact hlf
  · intro g hg
    rcases quf_cases hg with q | q
    · rcases a4 g q with c | ⟨l, c1, c2, c3⟩
      · exact Or.inl c
      · exact Or.inr ⟨l, c1, c2, qf_mono c3⟩
    · exact Or.inr ⟨t, ht, wt, qf_Ft.mpr (Or.inr q)⟩
  · intro l hl hw g hg
    rw [eS]
    by_cases e : l = t
    · subst e
      rcases qf_Ft.mp hg with q | q
      · exact a5 l hl hw g q
      · subst q
        cases c : qS σ g with
        | false => rfl
        | true => rw [a2 g c] at hU; cases hU
    · rw [qf_F e] at hg; exact a5 l hl hw g hg
  · intro l m hl hm hne
    by_cases e1 : l = t
    · subst e1
      rcases i2.2.1 l ht wt m hm (Ne.symm hne) with q | q
      · exact Or.inr (Or.inr ((s2 m hm (Ne.symm hne)).mpr q))
      · exact Or.inl (d2 m hm (Ne.symm hne) q).sy
    · by_cases e2 : m = t
      · subst e2
        rcases i2.2.1 m ht wt l hl hne with q | q
        · exact Or.inr (Or.inl ((s2 l hl hne).mpr q))
        · exact Or.inl (d2 l hl hne q)
      · rw [d1 l m e1 e2, s1 l m e1 e2, s1 m l e2 e1]; exact i2.1 l m hl hm hne
  · intro u hu hw l hl hne
    by_cases e2 : u = t
    · subst e2
      rcases i2.2.1 u ht wt l hl hne with q | q
      · exact Or.inl ((s2 l hl hne).mpr q)
      · exact Or.inr (d2 l hl hne q)
    · by_cases e1 : l = t
      · subst e1
        exact Or.inr (d2 u hu e2 (qtop i2 hu ht hw wt e2)).sy
      · rw [s1 l u e1 e2, d1 l u e1 e2]; exact i2.2.1 u hu hw l hl hne
  · intro l m hl hm hne hs
    by_cases e1 : l = t
    · subst e1; exact absurd hs (s3 m hm (Ne.symm hne))
    · by_cases e2 : m = t
      · subst e2; exact s3 l hl hne
      · rw [s1 m l e2 e1]; rw [s1 l m e1 e2] at hs; exact i2.2.2.1 l m hl hm hne hs
  · intro l hl
    obtain ⟨g, hg⟩ := i2.2.2.2 l hl
    exact ⟨g, qf_mono hg⟩
  · intro l hl
    rcases i3 l hl with c | c | ⟨m, o, r, c1, c2, c3, c4, c5, c6, c7, c8, c9, c10, c11, k, k1, g, k2, k3⟩
    · exact Or.inl c
    · exact Or.inr (Or.inl c)
    · exact Or.inr (Or.inr ⟨m, o, r, c1, c2, c3, c4, c5, c6, c7, c8, c9, c10, c11, k, k1, g, k2, qf_mono k3⟩)
  · intro m hm
    rcases i4 m hm with c | ⟨x, y, c1, c2, c3, c4, c5, c6, c7, c8, c9, c10⟩
    · exact Or.inl c
    · have hm' : m < qN σ := hm
      have x1 : x ≠ t := fun e => by rw [e, wt] at c5; exact nI_n3 (by omega) c5.symm
      have y1 : y ≠ t := fun e => by rw [e, wt] at c6; exact nI_n3 (by omega) c6.symm
      refine Or.inr ⟨x, y, c1, c2, c3, c4, c5, c6, ?_, ?_, (d1 x y x1 y1).mpr c9, ?_⟩
      · intro g hg; rw [qf_F x1] at hg; exact qf_mono (c7 g hg)
      · intro g hg; rw [qf_F y1] at hg; exact qf_mono (c8 g hg)
      · intro l hl hne hs
        by_cases e1 : l = t
        · subst e1; exact absurd hs (s3 m hm (Ne.symm hne))
        · rw [s1 l x e1 x1, s1 l y e1 y1]
          by_cases e2 : m = t
          · subst e2; exact c10 l hl hne ((s2 l hl hne).mp hs)
          · rw [s1 l m e1 e2] at hs; exact c10 l hl hne hs
  · intro l m x hl hm hw hx hne hs
    have hm' : m < qN σ := hm
    have e1 : l ≠ t := fun e => by rw [eW, e, wt] at hw; exact nI_n3 (by omega) hw.symm
    by_cases e2 : x = t
    · subst e2
      have := i5 l m x hl hm hw hx hne ((s2 l hl e1).mp hs)
      by_cases e3 : m = x
      · subst e3; exact qsub.rf
      · exact (s2 m hm e3).mpr this
    · have := i5 l m x hl hm hw hx hne ((s1 l x e1 e2).mp hs)
      by_cases e3 : m = t
      · subst e3; exact absurd this (top_in i2 ht wt hx e2)
      · exact (s1 m x e3 e2).mpr this
  · intro l hl g hg
    by_cases e : l = t
    · subst e
      rcases qf_Ft.mp hg with q | q
      · exact ⟨(i6 l hl g q).1, fun a ha e => qf_mono ((i6 l hl g q).2 a ha e)⟩
      · subst q; exact ⟨hd5, fun a ha e => qf_mono (hda a ha e)⟩
    · rw [qf_F e] at hg ⊢; exact i6 l hl g hg
  · intro z h1 h2
    rcases quf_cases h1 with q | q
    · obtain ⟨s, s1, s2, s3⟩ := i7 z q h2
      exact ⟨s, s1, s2, qf_mono s3⟩
    · rw [q] at h2; exact absurd h2 hd
  · intro u hu wu g hg k hk
    by_cases e : u = t
    · subst e
      rcases qf_Ft.mp hg with q | q
      · refine ⟨(i8 u hu wu g q k hk).1, fun x hx hux => ?_⟩
        rcases quf_cases hux with c | c
        · exact qf_mono ((i8 u hu wu g q k hk).2 x hx c)
        · exact qf_Ft.mpr (Or.inr c)
      · subst q
        refine ⟨hnn k hk, fun x hx hux => ?_⟩
        rcases quf_cases hux with c | c
        · exact qf_mono (hun k hk x hx c)
        · exact qf_Ft.mpr (Or.inr c)
    · rw [qf_F e] at hg ⊢
      refine ⟨(i8 u hu wu g hg k hk).1, fun x hx hux => ?_⟩
      rcases quf_cases hux with c | c
      · exact (i8 u hu wu g hg k hk).2 x hx c
      · subst c
        have ug := a1 u hu g hg
        obtain ⟨k', k1, k2⟩ := nbr_sym hz (a3 g ug) hk hx
        exact absurd ⟨hg, hun k' k1 g k2 ug⟩ (qtop i2 hu ht wu wt e g)
  · obtain ⟨h1, h2⟩ := i9
    refine ⟨?_, h2⟩
    rw [eA, eN, h1]
    refine fb_ct_cong (fun z _ => ?_)
    by_cases e : z = f
    · subst e
      rw [hU]
      simp [hd]
    · simp [quf, e]
end SGL
