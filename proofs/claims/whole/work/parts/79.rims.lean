/-! ===== rims rise along the tree ===== -/
def qX (ht : Nat → Int32) (σ : qLS) (h : Int) : Prop := (∀ l, l < qN σ → ∀ r, r < 64 → qM σ l = nI r → (ht r).toInt ≤ h) ∧ ∀ l m, l < qN σ → m < qN σ → qW σ l = nI m → ∀ r s, r < 64 → s < 64 → qM σ l = nI r → qM σ m = nI s → (ht r).toInt ≤ (ht s).toInt
section RIMS
variable {w n : Nat} {ld : Nat → Bool} {ht : Nat → Int32} {dn : Nat → Int32} {σ : qLS} {U T : Nat → Bool} {f a b l : Nat} {h : Int}
theorem qX_mono {h' : Int} (hx : qX ht σ h) (hh : h ≤ h') : qX ht σ h' := ⟨fun l hl r hr e => Int.le_trans (hx.1 l hl r hr e) hh, hx.2⟩
theorem qX_spl (hN : qN σ < 1000) (hx : qX ht σ (ht f).toInt) (hf : f < 64) : qX ht (qspl σ f l) (ht f).toInt := by
  have key : ∀ k, k < qN σ → ∀ r, r < 64 → qM (qspl σ f l) k = nI r → (ht r).toInt ≤ (ht f).toInt := by
    intro k hk r hr e
    by_cases c : k = l
    · rw [c, qs_Ml] at e
      have := nI_inj (by omega) (by omega) e
      rw [this]; exact Int.le_refl _
    · rw [qs_M c] at e
      exact hx.1 k hk r hr e
  refine ⟨key, ?_⟩
  intro k m hk hm hw r s hr hs er es
  have kl : k ≠ l := fun c => by
    rw [c, qs_Wl] at hw
    exact nI_n5 (by have : m < qN σ := hm; omega) hw.symm
  by_cases c : m = l
  · rw [c, qs_Ml] at es
    have := nI_inj (by omega) (by omega) es
    rw [← this]
    exact key k hk r hr er
  · rw [qs_W kl] at hw
    rw [qs_M kl] at er
    rw [qs_M c] at es
    exact hx.2 k m hk hm hw r s hr hs er es
theorem qX_dbl (hN : qN σ < 1000) (hx : qX ht σ (ht f).toInt) (hf : f < 64) (ha : a < qN σ) (hb : b < qN σ) (hab : a ≠ b) : qX ht (qdbl σ f a b) (ht f).toInt := by
  have key : ∀ k, k < qN (qdbl σ f a b) → ∀ r, r < 64 → qM (qdbl σ f a b) k = nI r → (ht r).toInt ≤ (ht f).toInt := by
    intro k hk r hr e
    rcases qd_lt hk with q | q
    · by_cases c1 : k = a
      · rw [c1, qd_Ma hab] at e
        have := nI_inj (by omega) (by omega) e
        rw [this]; exact Int.le_refl _
      by_cases c2 : k = b
      · rw [c2, qd_Mb] at e
        have := nI_inj (by omega) (by omega) e
        rw [this]; exact Int.le_refl _
      rw [qd_M q c1 c2] at e
      exact hx.1 k q r hr e
    · rw [q, qd_MN ha hb] at e
      exact absurd e.symm (nI_n3 (by omega))
  refine ⟨key, ?_⟩
  intro k m hk hm hw r s hr hs er es
  rcases qd_lt hm with qm | qm
  · rcases qd_lt hk with q | q
    · have k1 : k ≠ a := fun c => by
        rw [c, qd_Wa hab] at hw
        have := nI_inj (by omega) (by omega) hw
        omega
      have k2 : k ≠ b := fun c => by
        rw [c, qd_Wb] at hw
        have := nI_inj (by omega) (by omega) hw
        omega
      by_cases c1 : m = a
      · rw [c1, qd_Ma hab] at es
        have := nI_inj (by omega) (by omega) es
        rw [← this]
        exact key k hk r hr er
      by_cases c2 : m = b
      · rw [c2, qd_Mb] at es
        have := nI_inj (by omega) (by omega) es
        rw [← this]
        exact key k hk r hr er
      rw [qd_W q k1 k2] at hw
      rw [qd_M q k1 k2] at er
      rw [qd_M qm c1 c2] at es
      exact hx.2 k m q qm hw r s hr hs er es
    · rw [q, qd_WN ha hb] at hw
      exact absurd hw.symm (nI_n3 (by omega))
  · rw [qm, qd_MN ha hb] at es
    exact absurd es.symm (nI_n3 (by omega))
theorem qX_sgl (hN : qN σ < 1000) (hx : qX ht σ h) : qX ht (qsgl σ f) h := by
  refine ⟨?_, ?_⟩
  · intro k hk r hr e
    rcases qg_lt hk with q | q
    · rw [qg_M q] at e; exact hx.1 k q r hr e
    · rw [q, qg_MN] at e; exact absurd e.symm (nI_n3 (by omega))
  · intro k m hk hm hw r s hr hs er es
    rcases qg_lt hm with qm | qm
    · rcases qg_lt hk with q | q
      · rw [qg_W q] at hw
        rw [qg_M q] at er
        rw [qg_M qm] at es
        exact hx.2 k m q qm hw r s hr hs er es
      · rw [q, qg_WN] at hw
        exact absurd hw.symm (nI_n3 (by omega))
    · rw [qm, qg_MN] at es; exact absurd es.symm (nI_n3 (by omega))
theorem qX_spls (hN : qN σ < 1000) (hI : qInv w n ld dn σ U) (hT : qTs w n ld σ f T) (hf : f < n) (hn : n ≤ 64) (hlf : ld f = true) (hx : qX ht σ (ht f).toInt) : ∀ k, k ≤ qN σ → qX ht (qspls T f σ k) (ht f).toInt := by
  intro k
  induction k with
  | zero => intro _; exact hx
  | succ k ih =>
    intro hk
    have hp := qspls_P hN hI hT hf hlf k (by omega)
    cases c : T k with
    | false => rw [qspls_f c]; exact ih (by omega)
    | true =>
      rw [qspls_t c]
      exact qX_spl (by rw [hp.2.1]; exact hN) (ih (by omega)) (by omega)
theorem qX_jns (hz : Sz w n ld) (hdn : ∀ f, ld f = true → Dn ht (nbr w n ld f) f (dn f)) (hN : qN σ < 1000) (hI : qInv w n ld dn σ U) (hT : qTs w n ld σ f T) (hf : f < n) (hlf : ld f = true) (hx : qX ht σ (ht f).toInt) : ∀ k, k ≤ qN σ → qX ht (qjns T f σ k).2 (ht f).toInt := by
  have hn := hz.2.2.1
  intro k
  induction k with
  | zero => intro _; exact hx
  | succ k ih =>
    intro hk
    have i := ih (by omega)
    obtain ⟨p1, p2, p3, p4, p5, p6, p7, p8⟩ := qjns_P hz hdn hN hI hT hf hlf k (by omega)
    cases c : T k with
    | false => rw [qjns_f c]; exact i
    | true =>
      cases e : (qjns T f σ k).1 with
      | none => rw [qjns_n c e]; exact i
      | some t =>
        rw [qjns_s c e]
        obtain ⟨t1, t2, t3, -⟩ := p8 t e
        exact qX_dbl (by omega) i (by omega) t1 (by omega) (by omega)
theorem qX_go (hz : Sz w n ld) (hdn : ∀ f, ld f = true → Dn ht (nbr w n ld f) f (dn f)) (hN : qN σ < 1000) (hI : qInv w n ld dn σ U) (hT : qTs w n ld σ f T) (hlf : ld f = true) (hx : qX ht σ (ht f).toInt) (c : Bool) : qX ht (qgo c T σ f) (ht f).toInt := by
  have hn := hz.2.2.1
  have hf := hz.2.2.2.2 f hlf
  unfold qgo
  by_cases hc : c = true
  · rw [if_pos hc]
    exact qX_spls hN hI hT hf hn hlf hx (qN σ) (Nat.le_refl _)
  · rw [if_neg hc]
    cases e : (qjns T f σ (qN σ)).1 with
    | none => exact qX_sgl hN hx
    | some t => exact qX_jns hz hdn hN hI hT hf hlf hx (qN σ) (Nat.le_refl _)
/-- singles are apart -/
def qY (σ : qLS) : Prop := ∀ l m, l < qN σ → m < qN σ → l ≠ m → qA σ l = -3 → qA σ m = -3 → qdis (qF σ) l m
theorem qY_dbl (hN : qN σ < 1000) (hx : qY σ) (ha : a < qN σ) (hb : b < qN σ) : qY (qdbl σ f a b) := by
  intro k m hk hm hne hA hB
  rcases qd_lt hk with q | q
  · rcases qd_lt hm with q2 | q2
    · rw [qd_A q] at hA
      rw [qd_A q2] at hB
      rw [qd_dis q q2]
      exact hx k m q q2 hne hA hB
    · rw [q2, qd_AN] at hB
      exact absurd hB (nI_n3 (by omega))
  · rw [q, qd_AN] at hA
    exact absurd hA (nI_n3 (by omega))
theorem qY_sgl (hx : qY σ) (hno : ∀ l, l < qN σ → qF σ l f = false) : qY (qsgl σ f) := by
  intro k m hk hm hne hA hB
  rcases qg_lt hk with q | q
  · rcases qg_lt hm with q2 | q2
    · rw [qg_A q] at hA
      rw [qg_A q2] at hB
      rw [qg_dis q q2]
      exact hx k m q q2 hne hA hB
    · intro g ⟨g1, g2⟩
      rw [q2] at g2
      rw [qg_FN.mp g2, qg_F q, hno k q] at g1
      cases g1
  · rcases qg_lt hm with q2 | q2
    · intro g ⟨g1, g2⟩
      rw [q] at g1
      rw [qg_FN.mp g1, qg_F q2, hno m q2] at g2
      cases g2
    · omega
theorem qY_adf {t : Nat} (hx : qY σ) (hno : ∀ l, l < qN σ → qF σ l f = false) : qY (qadf σ f t) := by
  have key : ∀ k m, k < qN σ → m < qN σ → k ≠ m → qdis (qF σ) k m → qdis (qF (qadf σ f t)) k m := by
    intro k m hk hm hne hd g ⟨g1, g2⟩
    by_cases c1 : k = t
    · by_cases c2 : m = t
      · omega
      · rw [qf_F c2] at g2
        rw [c1] at g1 hd hk
        rcases qf_Ft.mp g1 with q | q
        · exact hd g ⟨q, g2⟩
        · rw [q, hno m hm] at g2; cases g2
    · rw [qf_F c1] at g1
      by_cases c2 : m = t
      · rw [c2] at g2 hd
        rcases qf_Ft.mp g2 with q | q
        · exact hd g ⟨g1, q⟩
        · rw [q, hno k hk] at g1; cases g1
      · rw [qf_F c2] at g2
        exact hd g ⟨g1, g2⟩
  intro k m hk hm hne hA hB
  exact key k m hk hm hne (hx k m hk hm hne hA hB)
theorem qY_jns (hz : Sz w n ld) (hdn : ∀ f, ld f = true → Dn ht (nbr w n ld f) f (dn f)) (hN : qN σ < 1000) (hI : qInv w n ld dn σ U) (hT : qTs w n ld σ f T) (hf : f < n) (hlf : ld f = true) (hx : qY σ) : ∀ k, k ≤ qN σ → qY (qjns T f σ k).2 := by
  intro k
  induction k with
  | zero => intro _; exact hx
  | succ k ih =>
    intro hk
    have i := ih (by omega)
    obtain ⟨p1, p2, p3, p4, p5, p6, p7, p8⟩ := qjns_P hz hdn hN hI hT hf hlf k (by omega)
    cases c : T k with
    | false => rw [qjns_f c]; exact i
    | true =>
      cases e : (qjns T f σ k).1 with
      | none => rw [qjns_n c e]; exact i
      | some t =>
        rw [qjns_s c e]
        obtain ⟨t1, t2, t3, -⟩ := p8 t e
        exact qY_dbl (by omega) i t1 (by omega)
theorem qY_go (hz : Sz w n ld) (hdn : ∀ f, ld f = true → Dn ht (nbr w n ld f) f (dn f)) (hN : qN σ < 1000) (hI : qInv w n ld dn σ U) (hT : qTs w n ld σ f T) (hU : U f = false) (hlf : ld f = true) (hx : qY σ) (c : Bool) : qY (qgo c T σ f) := by
  have hf := hz.2.2.2.2 f hlf
  have nof : ∀ τ : qLS, qIA τ U ld → ∀ l, l < qN τ → qF τ l f = false := by
    intro τ hA l hl
    cases e : qF τ l f with
    | false => rfl
    | true => have := hA.1 l hl f e; rw [hU] at this; cases this
  unfold qgo
  by_cases hc : c = true
  · rw [if_pos hc]
    obtain ⟨p1, p2, p3, p4, -⟩ := qspls_P hN hI hT hf hlf (qN σ) (Nat.le_refl _)
    intro k m hk hm hne hA hB
    have e1 : qN (qsel (qspls T f σ (qN σ)) f) = qN σ := p2
    have e2 : qF (qsel (qspls T f σ (qN σ)) f) = qF σ := p3
    have e3 : qA (qsel (qspls T f σ (qN σ)) f) = qA σ := p4
    rw [e1] at hk hm
    rw [e3] at hA hB
    rw [e2]
    exact hx k m hk hm hne hA hB
  · rw [if_neg hc]
    cases e : (qjns T f σ (qN σ)).1 with
    | none => exact qY_sgl hx (nof σ hI.1)
    | some t => exact qY_adf (qY_jns hz hdn hN hI hT hf hlf hx (qN σ) (Nat.le_refl _)) (nof _ (qjns_P hz hdn hN hI hT hf hlf (qN σ) (Nat.le_refl _)).1.1)
end RIMS
