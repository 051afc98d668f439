/-! ===== all fields go under ===== -/
def qU (od : Nat → Nat) : Nat → Nat → Bool
  | 0 => fun _ => false
  | j + 1 => quf (qU od j) (od j)
theorem qU_iff {od : Nat → Nat} {g : Nat} : ∀ j, qU od j g = true ↔ ∃ i, i < j ∧ od i = g := by
  intro j
  induction j with
  | zero => exact ⟨fun h => (by cases h), fun ⟨i, hi, _⟩ => absurd hi (Nat.not_lt_zero i)⟩
  | succ j ih =>
    show quf (qU od j) (od j) g = true ↔ _
    constructor
    · intro h
      rcases quf_cases h with q | q
      · obtain ⟨i, i1, i2⟩ := ih.mp q
        exact ⟨i, by omega, i2⟩
      · exact ⟨j, by omega, q.symm⟩
    · rintro ⟨i, i1, i2⟩
      by_cases e : i = j
      · subst e; rw [← i2]; exact quf_self
      · exact quf_of (ih.mpr ⟨i, by omega, i2⟩)
def q0 : qLS := (0, fun _ _ => false, fun _ => 0, fun _ => 0, fun _ => 0, fun _ => 0, fun _ => false)
section COME
variable {w n : Nat} {ld : Nat → Bool} {ht : Nat → Int32} {dn : Nat → Int32} {σ : qLS} {U T : Nat → Bool} {f : Nat} {b : Bool} {μ ν : Mem} {m : Nat} {od : Nat → Nat}
theorem q0_Inv : qInv w n ld dn q0 (fun _ => false) := by
  have nl : ∀ l, ¬ l < qN q0 := fun l h => Nat.not_lt_zero l h
  refine ⟨⟨fun l hl => absurd hl (nl l), fun f h => (by cases h), fun f h => (by cases h), fun f h => (by cases h), fun l hl => absurd hl (nl l)⟩, ⟨fun l m hl => absurd hl (nl l), fun l hl => absurd hl (nl l), fun l m hl => absurd hl (nl l), fun l hl => absurd hl (nl l)⟩, fun l hl => absurd hl (nl l), fun l hl => absurd hl (nl l), fun l m x hl => absurd hl (nl l), fun l hl => absurd hl (nl l), fun z h => (by cases h), fun l hl => absurd hl (nl l), ?_, rfl⟩
  show 0 = _
  symm
  rw [fb_ct_zero]
  intro k _
  rfl
theorem MO_pick (hz : Sz w n ld) (h : ReM w n ld ht ν) (h82 : ∀ g, g < n → ν.1 82 g = if U g = true then 1 else 0) (y : Int32) : ∃ r, f_MO_layLakes_L51 ν y FU (-3) 0 = some (encN r) ∧ (r = none → ∀ g, g < n → ld g = true → U g = true) ∧ ∀ a, r = some a → a < n ∧ ld a = true ∧ U a = false ∧ ∀ g, g < n → ld g = true → U g = false → g = a ∨ lw ht a g = true := by
  have hn := hz.2.2.1
  obtain ⟨v, v1, r, v2, v3, v4⟩ := lp_0 (fun i a k => f_MO_layLakes_L51 ν y i a (nI k)) (fun k a => ∃ r, a = encN r ∧ (r = none → ∀ g, g < k → ld g = true → U g = true) ∧ ∀ a, r = some a → a < n ∧ ld a = true ∧ U a = false ∧ ∀ g, g < k → ld g = true → U g = false → g = a ∨ lw ht a g = true) (fun a => ∃ r, a = encN r ∧ (r = none → ∀ g, g < n → ld g = true → U g = true) ∧ ∀ a, r = some a → a < n ∧ ld a = true ∧ U a = false ∧ ∀ g, g < n → ld g = true → U g = false → g = a ∨ lw ht a g = true) n (-3) (by omega)
    ⟨none, rfl, fun _ g hg => absurd hg (Nat.not_lt_zero g), fun a h => by cases h⟩
    (fun i a g => ⟨a, by
      show f_MO_layLakes_L51 ν y (i + 1) a (nI n) = _
      rw [f_MO_layLakes_L51.eq_2, h.2.1, if_pos (Int32.le_refl _)], g⟩)
    (fun i a k hk g => by
      obtain ⟨r, rfl, g2, g3⟩ := g
      show ∃ a', _ ∧ f_MO_layLakes_L51 ν y (i + 1) (encN r) (nI k) = f_MO_layLakes_L51 ν y i a' (nI (k + 1))
      rw [f_MO_layLakes_L51.eq_2, h.2.1, if_neg (nI_ge hk (by omega)), nI_1]
      simp only [G_n (show k < 64 by omega) (show 64 < 2147483648 by decide)]
      rw [cl (by omega), h.2.2.1 k hk, h82 k hk]
      have skip : (ld k = true → U k = true) → ∃ r', encN r = encN r' ∧ (r' = none → ∀ g, g < k + 1 → ld g = true → U g = true) ∧ ∀ a, r' = some a → a < n ∧ ld a = true ∧ U a = false ∧ ∀ g, g < k + 1 → ld g = true → U g = false → g = a ∨ lw ht a g = true := by
        intro hs
        refine ⟨r, rfl, fun e g hg hl => ?_, fun a e => ?_⟩
        · by_cases q : g = k
          · subst q; exact hs hl
          · exact g2 e g (by omega) hl
        · obtain ⟨a1, a2, a3, a4⟩ := g3 a e
          refine ⟨a1, a2, a3, fun g hg hl hu => ?_⟩
          by_cases q : g = k
          · subst q; rw [hs hl] at hu; cases hu
          · exact a4 g (by omega) hl hu
      by_cases c1 : ld k = true
      · rw [if_pos c1, if_pos rfl]
        by_cases c2 : U k = true
        · rw [if_pos c2, if_neg (by decide)]
          exact ⟨encN r, skip (fun _ => c2), rfl⟩
        · rw [if_neg c2, if_pos rfl]
          have c2' : U k = false := Bool.eq_false_iff.mpr c2
          cases r with
          | none =>
            rw [show encN none = -3 from rfl, if_pos rfl]
            refine ⟨nI k, ⟨some k, rfl, fun e => (by cases e), fun a e => ?_⟩, rfl⟩
            cases e
            refine ⟨hk, c1, c2', fun g hg hl hu => ?_⟩
            by_cases q : g = k
            · exact Or.inl q
            · rw [g2 rfl g (by omega) hl] at hu; cases hu
          | some b =>
            obtain ⟨b1, b2, b3, b4⟩ := g3 b rfl
            rw [show encN (some b) = nI b from rfl, if_neg (nI_n3 (by omega)), MO_isLower hn h hk b1]
            simp only [Option.bind_some]
            by_cases c : lw ht k b = true
            · rw [if_pos c, if_neg (by decide)]
              refine ⟨nI k, ⟨some k, rfl, fun e => (by cases e), fun a e => ?_⟩, rfl⟩
              cases e
              refine ⟨hk, c1, c2', fun g hg hl hu => ?_⟩
              by_cases q : g = k
              · exact Or.inl q
              · rcases b4 g (by omega) hl hu with p | p
                · rw [p]; exact Or.inr c
                · exact Or.inr (lw_tr c p)
            · rw [if_neg c, if_pos rfl]
              refine ⟨nI b, ⟨some b, rfl, fun e => (by cases e), fun a e => ?_⟩, rfl⟩
              cases e
              refine ⟨b1, b2, b3, fun g hg hl hu => ?_⟩
              by_cases q : g = k
              · by_cases p : k = b
                · exact Or.inl (q.trans p)
                · rw [q]; exact Or.inr ((lw_tot p).resolve_left c)
              · exact b4 g (by omega) hl hu
      · rw [if_neg c1, if_neg (by decide)]
        exact ⟨encN r, skip (fun h => absurd h c1), rfl⟩)
  have v1' : f_MO_layLakes_L51 ν y FU (-3) 0 = some v := v1
  exact ⟨r, by rw [v1', v2], v3, v4⟩
theorem qU_lw (ho : OrC n ld ht μ m od) {j : Nat} (hj : j < m) (g : Nat) : qU od j g = true ↔ ld g = true ∧ lw ht g (od j) = true := by
  rw [qU_iff]
  constructor
  · rintro ⟨i, i1, rfl⟩
    exact ⟨(ho.2.1 i (by omega)).2.2, ho.2.2.1 i j i1 hj⟩
  · rintro ⟨h1, h2⟩
    obtain ⟨k, k1, rfl⟩ := ho.2.2.2 g h1
    refine ⟨k, ?_, rfl⟩
    rcases Nat.lt_trichotomy k j with q | q | q
    · exact q
    · subst q; exact absurd h2 lw_irr
    · exact absurd (ho.2.2.1 j k q k1) (lw_asym h2)
theorem lock (hz : Sz w n ld) (h : ReC w n ld ht μ) (hb : NbC w n ld μ) (hm : m ≤ n) (ho : OrC n ld ht μ m od) (h' : ReM w n ld ht ν) (hdn : ∀ f, ld f = true → Dn ht (nbr w n ld f) f (dn f)) (hR : qRC μ q0) (hM : qRM n ν q0 (fun _ => false)) : ∀ j, j ≤ m → ∃ (a c : Mem) (σ : qLS), (∀ F, f_LK_come_L22 (F + j) μ 0 = f_LK_come_L22 F a (nI j)) ∧ (∀ F, f_MO_layLakes_L38 (F + j) ν 0 = f_MO_layLakes_L38 F c (nI j)) ∧ qRC a σ ∧ qRM n c σ (qU od j) ∧ qInv w n ld dn σ (qU od j) ∧ qN σ ≤ 35 ∧ qFr μ a ∧ qFm ν c ∧ qY σ ∧ ∃ h : Int, qX ht σ h ∧ (j < m → h ≤ (ht (od j)).toInt) := by
  have hn := hz.2.2.1
  intro j
  induction j with
  | zero =>
    intro _
    exact ⟨μ, ν, q0, fun _ => rfl, fun _ => rfl, hR, hM, q0_Inv, Nat.zero_le _, qFr.rf, qFm.rf, fun l x hl => absurd hl (Nat.not_lt_zero l), (ht (od 0)).toInt, ⟨fun l hl => absurd hl (Nat.not_lt_zero l), fun l x hl => absurd hl (Nat.not_lt_zero l)⟩, fun _ => Int.le_refl _⟩
  | succ j ih =>
    intro hj
    obtain ⟨a, c, σ, e1, e2, r1, r2, i1, i2, f1, f2, hy, hx, x1, x2⟩ := ih (by omega)
    have hU := fun g => qU_lw ho (show j < m by omega) g
    obtain ⟨o1, o2, o3, o4⟩ := id ho
    obtain ⟨p1, p2, p3⟩ := o2 j (by omega)
    obtain ⟨b, T, a', t1, t2, t3, t4, t5⟩ := LK_goUnder hz (f1.ReC h) (f1.NbC hb) r1 hdn i2 i1 hU p3
    obtain ⟨c', s1, s2, s3⟩ := MO_goUnder hz (f2.ReM h') r2 hdn i2 i1 hU p3 t1 t2
    have hG := qgo_P hz hdn (by omega) i1 hU t1 t2 p3
    refine ⟨a', c', qgo b T σ (od j), fun F => ?_, fun F => ?_, t4, s2, hG.1, hG.2, f1.tr t5, f2.tr s3, qY_go hz hdn (by omega) i1 t1 (by cases q : qU od j (od j) with | false => rfl | true => exact absurd ((hU _).mp q).2 lw_irr) p3 hy b, (ht (od j)).toInt, qX_go hz hdn (by omega) i1 t1 p3 (qX_mono x1 (x2 (by omega))) b, fun hj' => by have := lw_iff.mp (o3 j (j + 1) (by omega) hj'); omega⟩
    · rw [show F + (j + 1) = (F + 1) + j by omega, e1, f_LK_come_L22.eq_2, f1.1 18 (by decide), o1, if_neg (nI_ge (by omega) (by omega)), G_n (by omega) (by decide), cl (by omega), f1.1 23 (by decide), p1, t3, nI_1]
      rfl
    · obtain ⟨r, q1, q2, q3⟩ := MO_pick (U := qU od j) hz (f2.ReM h') r2.2.2.1 (nI j)
      have hr : r = some (od j) := by
        cases r with
        | none =>
          have := q2 rfl (od j) p2 p3
          exact absurd ((hU _).mp this).2 lw_irr
        | some x =>
          obtain ⟨x1, x2, x3, x4⟩ := q3 x rfl
          congr 1
          have nu : qU od j (od j) = false := by
            cases c : qU od j (od j) with
            | false => rfl
            | true => exact absurd ((hU _).mp c).2 lw_irr
          rcases x4 (od j) p2 p3 nu with e | e
          · exact e.symm
          · have := (hU x).mpr ⟨x2, e⟩
            rw [x3] at this; cases this
      rw [show F + (j + 1) = (F + 1) + j by omega, e2, f_MO_layLakes_L38.eq_2, (f2.ReM h').2.1, if_neg (nI_ge (by omega) (by omega)), q1, hr, nI_1]
      simp only [Option.bind_some]
      rw [show encN (some (od j)) = nI (od j) from rfl, if_neg (nI_n3 (by omega)), s1]
      rfl
/-- the class's and the reference's tree, all fields under -/
theorem lock_end (hz : Sz w n ld) (h : ReC w n ld ht μ) (hb : NbC w n ld μ) (hm : m ≤ n) (ho : OrC n ld ht μ m od) (h' : ReM w n ld ht ν) (hdn : ∀ f, ld f = true → Dn ht (nbr w n ld f) f (dn f)) (hR : qRC μ q0) (hM : qRM n ν q0 (fun _ => false)) : ∃ (a c : Mem) (σ : qLS), f_LK_come_L22 FU μ 0 = some a ∧ f_MO_layLakes_L38 FU ν 0 = some c ∧ qRC a σ ∧ qRM n c σ ld ∧ qInv w n ld dn σ ld ∧ qN σ ≤ 35 ∧ qFr μ a ∧ qFm ν c ∧ qY σ ∧ ∃ h : Int, qX ht σ h := by
  have hn := hz.2.2.1
  obtain ⟨a, c, σ, e1, e2, r1, r2, i1, i2, f1, f2, hy, hx, x1, -⟩ := lock hz h hb hm ho h' hdn hR hM m (Nat.le_refl _)
  have eU : qU od m = ld := by
    funext g
    cases c : ld g with
    | true =>
      obtain ⟨k, k1, k2⟩ := ho.2.2.2 g c
      exact (qU_iff m).mpr ⟨k, k1, k2⟩
    | false =>
      cases c2 : qU od m g with
      | false => rfl
      | true =>
        obtain ⟨k, k1, k2⟩ := (qU_iff m).mp c2
        have := (ho.2.1 k k1).2.2
        rw [k2, c] at this; cases this
  rw [eU] at r2 i1
  have rest : ∀ d, m + d ≤ n → ∀ F, f_MO_layLakes_L38 (F + (m + d)) ν 0 = f_MO_layLakes_L38 F c (nI (m + d)) := by
    intro d
    induction d with
    | zero => intro _ F; exact e2 F
    | succ d ih =>
      intro hd F
      obtain ⟨r, q1, q2, q3⟩ := MO_pick (U := ld) hz (f2.ReM h') r2.2.2.1 (nI (m + d))
      have hr : r = none := by
        cases r with
        | none => rfl
        | some x =>
          obtain ⟨x1, x2, x3, x4⟩ := q3 x rfl
          rw [x2] at x3; cases x3
      rw [show F + (m + (d + 1)) = (F + 1) + (m + d) by omega, ih (by omega), f_MO_layLakes_L38.eq_2, (f2.ReM h').2.1, if_neg (nI_ge (by omega) (by omega)), q1, hr, nI_1]
      rfl
  refine ⟨a, c, σ, ?_, ?_, r1, r2, i1, i2, f1, f2, hy, hx, x1⟩
  · have := e1 (999999 - m + 1)
    rw [show 999999 - m + 1 + m = FU by unfold FU; omega] at this
    rw [this, f_LK_come_L22.eq_2, f1.1 18 (by decide), ho.1, if_pos (Int32.le_refl _)]
  · have := rest (n - m) (by omega) (999999 - n + 1)
    rw [show 999999 - n + 1 + (m + (n - m)) = FU by unfold FU; omega, show m + (n - m) = n by omega] at this
    rw [this, f_MO_layLakes_L38.eq_2, (f2.ReM h').2.1, if_pos (Int32.le_refl _)]
/-- with all land under, each lake has a rim -/
theorem no_top (hz : Sz w n ld) (hI : qInv w n ld dn σ ld) : ∀ t, t < qN σ → ¬ qW σ t = -3 := by
  intro t ht' wt
  obtain ⟨⟨a1, -⟩, i2, -, -, -, -, -, i8, -⟩ := hI
  have key : ∀ x f, f < x → ¬ qF σ t f = true := by
    intro x
    induction x with
    | zero => intro f hf; exact absurd hf (Nat.not_lt_zero f)
    | succ x ih =>
      intro f hf hF
      obtain ⟨c1, c2⟩ := i8 t ht' wt f hF 0 (by decide)
      cases e : nbr w n ld f 0 with
      | none => exact c1 e
      | some g =>
        have hg := c2 g e (nbr_g e).2
        have := (nbr_g e).1
        unfold gnb at this
        simp at this
        have w1 := hz.1
        exact ih g (by omega) hg
  obtain ⟨f, hf⟩ := i2.2.2.2 t ht'
  exact key (f + 1) f (by omega) hf
end COME
