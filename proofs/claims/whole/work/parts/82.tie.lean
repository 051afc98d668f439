/-! ===== the tie of the two objects ===== -/
def GeoT (w n m : Nat) (ld : Nat → Bool) (ht : Nat → Int32) (od : Nat → Nat) (dn we : Nat → Int32) (μ ν : Mem) : Prop := Sz w n ld ∧ Hts n ld ht ∧ m ≤ n ∧ ReC w n ld ht μ ∧ NbC w n ld μ ∧ OrC n ld ht μ m od ∧ ReM w n ld ht ν ∧ (∀ f, ld f = true → Dn ht (nbr w n ld f) f (dn f) ∧ WE n dn we f) ∧ (∀ f, ld f = true → μ.1 20 f = dn f ∧ μ.1 21 f = we f ∧ ν.1 69 f = dn f ∧ μ.1 22 f = ν.1 71 f) ∧ ∀ f, f < n → ν.1 70 f = if ld f = true then we f else -5
def TreeP (w n : Nat) (ld : Nat → Bool) (ht : Nat → Int32) (dn : Nat → Int32) (σ : qLS) : Prop := qInv w n ld dn σ ld ∧ qN σ ≤ 35 ∧ ∃ h, qX ht σ h
def WatI (n : Nat) (ld : Nat → Bool) (ht : Nat → Int32) (dn : Nat → Int32) (σ : qLS) (th : Nat → Bool) (wa : Nat → Int32) : Prop := (∀ l m, l < qN σ → m < qN σ → l ≠ m → th l = true → th m = true → qdis (qF σ) l m) ∧ (∀ z, ld z = true → dn z = -3 → ∃ l, l < qN σ ∧ th l = true ∧ qF σ l z = true) ∧ ∀ l, l < qN σ → 0 ≤ (wa l).toInt ∧ (wa l).toInt ≤ (moF n ht σ l).toInt
def LaidT (μ ν : Mem) : Prop := ∃ (w n m : Nat) (ld : Nat → Bool) (ht : Nat → Int32) (od : Nat → Nat) (dn we : Nat → Int32) (σ : qLS) (th : Nat → Bool) (wa : Nat → Int32), GeoT w n m ld ht od dn we μ ν ∧ TreeP w n ld ht dn σ ∧ LkC σ (moF n ht σ) th wa μ ∧ LkM σ th wa ν ∧ WatI n ld ht dn σ th wa ∧ μ.2 26 2 = ν.2 63 20 ∧ μ.2 26 3 = ν.2 63 21
def JJ (μ ν : Mem) : Prop := StT μ ν ∧ ((μ.1 0 3 = 0 ∧ ν.1 63 3 = 0) ∨ (μ.1 0 3 = 1 ∧ ν.1 63 3 = 1 ∧ LaidT μ ν))
section TIE
variable {w n m : Nat} {ld : Nat → Bool} {ht : Nat → Int32} {od : Nat → Nat} {dn we : Nat → Int32} {σ : qLS} {th : Nat → Bool} {wa mo : Nat → Int32} {μ ν μ' ν' : Mem}
theorem OrC.of (h : OrC n ld ht μ m od) (e1 : μ'.1 18 9 = μ.1 18 9) (e2 : μ'.1 23 = μ.1 23) : OrC n ld ht μ' m od := ⟨by rw [e1]; exact h.1, fun k hk => by rw [e2]; exact h.2.1 k hk, h.2.2.1, h.2.2.2⟩
theorem GeoT.of (h : GeoT w n m ld ht od dn we μ ν) (e1 : ∀ q, 18 ≤ q → q ≤ 24 → μ'.1 q = μ.1 q) (e2 : μ'.2 18 = μ.2 18) (e3 : ν'.1 63 4 = ν.1 63 4) (e3' : ν'.1 63 5 = ν.1 63 5) (e4 : ∀ q, 67 ≤ q → q ≤ 71 → ν'.1 q = ν.1 q) : GeoT w n m ld ht od dn we μ' ν' := by
  obtain ⟨g1, g2, g3, g4, g5, g6, g7, g8, g9, g10⟩ := h
  refine ⟨g1, g2, g3, g4.of (by rw [e1 18 (by decide) (by decide)]) (by rw [e1 18 (by decide) (by decide)]) (by rw [e2]) (e1 19 (by decide) (by decide)), fun f hf k hk => by rw [e1 24 (by decide) (by decide)]; exact g5 f hf k hk, g6.of (by rw [e1 18 (by decide) (by decide)]) (e1 23 (by decide) (by decide)), g7.of e3 e3' (e4 67 (by decide) (by decide)) (e4 68 (by decide) (by decide)), g8, ?_, ?_⟩
  · intro f hf
    rw [e1 20 (by decide) (by decide), e1 21 (by decide) (by decide), e1 22 (by decide) (by decide), e4 69 (by decide) (by decide), e4 71 (by decide) (by decide)]
    exact g9 f hf
  · intro f hf
    rw [e4 70 (by decide) (by decide)]
    exact g10 f hf
theorem LkC.of (h : LkC σ mo th wa μ) (hN : qN σ ≤ 35) (e1 : ∀ q, 26 ≤ q → q < 63 → μ'.1 q = μ.1 q) (e2 : ∀ q, 28 ≤ q → q < 63 → μ'.2 q = μ.2 q) : LkC σ mo th wa μ' := by
  refine ⟨by rw [e1 26 (by decide) (by decide)]; exact h.1, fun l hl => ?_⟩
  rw [e1 (28 + l) (by omega) (by omega), e2 (28 + l) (by omega) (by omega)]
  exact h.2 l hl
theorem LkM.of (h : LkM σ th wa ν) (e1 : ν'.1 63 11 = ν.1 63 11) (e2 : ∀ q, 72 ≤ q → q ≤ 79 → ν'.1 q = ν.1 q) (e3 : ν'.2 73 = ν.2 73) : LkM σ th wa ν' := by
  refine ⟨by rw [e1]; exact h.1, fun l hl => ?_⟩
  rw [e3, e2 72 (by decide) (by decide), e2 74 (by decide) (by decide), e2 75 (by decide) (by decide), e2 76 (by decide) (by decide), e2 77 (by decide) (by decide), e2 78 (by decide) (by decide), e2 79 (by decide) (by decide)]
  exact h.2 l hl
theorem LaidT.of (h : LaidT μ ν) (e1 : ∀ q, 18 ≤ q → q ≠ 25 → μ'.1 q = μ.1 q) (e2 : μ'.2 = μ.2) (e3 : ν'.1 63 = ν.1 63) (e4 : ∀ q, 67 ≤ q → q ≤ 79 → ν'.1 q = ν.1 q) (e5 : ν'.2 = ν.2) : LaidT μ' ν' := by
  obtain ⟨w, n, m, ld, ht, od, dn, we, σ, th, wa, h1, h2, h3, h4, h5, h6, h7⟩ := h
  exact ⟨w, n, m, ld, ht, od, dn, we, σ, th, wa, h1.of (fun q a b => e1 q a (by omega)) (by rw [e2]) (by rw [e3]) (by rw [e3]) (fun q a b => e4 q a (by omega)), h2, h3.of h2.2.1 (fun q a b => e1 q (by omega) (by omega)) (fun q _ _ => by rw [e2]), h4.of (by rw [e3]) (fun q a b => e4 q (by omega) b) (by rw [e5]), h5, by rw [e2, e5]; exact h6, by rw [e2, e5]; exact h7⟩
/-- the acts on strips keep the tie -/
theorem JJ_fr (h : JJ μ ν) (hs : StT μ' ν') (hf : Fr μ μ' ν ν') : JJ μ' ν' := by
  obtain ⟨f1, f2, f3, f4⟩ := hf
  refine ⟨hs, ?_⟩
  rw [f1 0 (by decide), f3 63 (by decide) (by decide)]
  rcases h.2 with q | ⟨q1, q2, q3⟩
  · exact Or.inl q
  · exact Or.inr ⟨q1, q2, q3.of (fun q a _ => f1 q (Or.inr a)) f2 (f3 63 (by decide) (by decide)) (fun q a b => f3 q (by omega) (by omega)) f4⟩
theorem OrC_ct (h : OrC n ld ht μ m od) (hld : ∀ g, ld g = true → g < n) : m = fb_ct ld n := by
  obtain ⟨h1, h2, h3, h4⟩ := h
  have a1 : m ≤ fb_ct ld n := by
    refine fb_holes (fb_ct ld n) m (fun k => fb_ct ld (od k)) (fun i hi => ?_) (fun i j hij hj e => ?_)
    · obtain ⟨-, p2, p3⟩ := h2 i hi
      have := fb_ct_mono ld (show od i + 1 ≤ n by omega)
      rw [fb_ct_succ, p3, if_pos rfl] at this
      show fb_ct ld (od i) < _
      omega
    · have e' : od i = od j := fb_ct_kth_one (h2 i (by omega)).2.2 (h2 j hj).2.2 e
      have := h3 i j hij hj
      rw [e'] at this
      exact lw_irr this
  have a2 : fb_ct ld n ≤ m := by
    refine ct_inj (fun z => if hz : ld z = true then Classical.choose (h4 z hz) else 0) (fun z _ hz => ?_) (fun z z' _ _ hz hz' e => ?_)
    · rw [dif_pos hz]
      exact (Classical.choose_spec (h4 z hz)).1
    · rw [dif_pos hz, dif_pos hz'] at e
      have q1 := (Classical.choose_spec (h4 z hz)).2
      have q2 := (Classical.choose_spec (h4 z' hz')).2
      rw [← q1, ← q2, e]
  omega
theorem si_le {f g : Nat → Int} : ∀ {k : Nat}, (∀ i, i < k → f i ≤ g i) → fb_si f k ≤ fb_si g k := by
  intro k
  induction k with
  | zero => intro _; exact Int.le_refl _
  | succ k ih =>
    intro h
    rw [fb_si_succ, fb_si_succ]
    have h1 := ih (fun i hi => h i (by omega))
    have h2 := h k (by omega)
    omega
/-- what a lake holds, as a whole number -/
def rmI (F : Nat → Bool) (ht : Nat → Int32) (v : Int) (i : Nat) : Int := if F i = true then (if v ≤ (ht i).toInt then 0 else v - (ht i).toInt) else 0
theorem rmF_int {F : Nat → Bool} {v : Int32} (hv : -1000000 ≤ v.toInt ∧ v.toInt ≤ 1000000) (hF : ∀ i, F i = true → -1000000 ≤ (ht i).toInt ∧ (ht i).toInt ≤ 1000000) : ∀ k, k ≤ 64 → (rmF F ht v k).toInt = fb_si (rmI F ht v.toInt) k ∧ 0 ≤ (rmF F ht v k).toInt ∧ (rmF F ht v k).toInt ≤ k * 2000000 := by
  intro k
  induction k with
  | zero => intro _; exact ⟨rfl, Int.le_refl _, Int.le_refl _⟩
  | succ k ih =>
    intro hk
    obtain ⟨i1, i2, i3⟩ := ih (by omega)
    have key : ∀ t : Int32, t.toInt = rmI F ht v.toInt k → 0 ≤ t.toInt → t.toInt ≤ 2000000 → (rmF F ht v k + t).toInt = fb_si (rmI F ht v.toInt) (k + 1) ∧ 0 ≤ (rmF F ht v k + t).toInt ∧ (rmF F ht v k + t).toInt ≤ ((k + 1 : Nat) : Int) * 2000000 := by
      intro t t1 t2 t3
      have e := fb_addI (x := rmF F ht v k) (y := t) (by omega) (by omega)
      rw [e, fb_si_succ, ← t1, ← i1]
      refine ⟨rfl, by omega, by omega⟩
    show (rmF F ht v k + _).toInt = _ ∧ 0 ≤ (rmF F ht v k + _).toInt ∧ (rmF F ht v k + _).toInt ≤ _
    have e0 : (0 : Int32).toInt = 0 := rfl
    by_cases c : F k = true
    · have hb := hF k c
      by_cases c2 : v ≤ ht k
      · refine key _ ?_ ?_ ?_
        · unfold rmI; rw [if_pos c, if_pos c2, if_pos c, if_pos ((fa_le _ _).mp c2)]; rfl
        · rw [if_pos c, if_pos c2, e0]; omega
        · rw [if_pos c, if_pos c2, e0]; omega
      · have c3 : ¬ v.toInt ≤ (ht k).toInt := fun q => c2 ((fa_le _ _).mpr q)
        have es := fb_subI (x := v) (y := ht k) (by omega) (by omega)
        refine key _ ?_ ?_ ?_
        · unfold rmI; rw [if_pos c, if_neg c2, if_pos c, if_neg c3, es]
        · rw [if_pos c, if_neg c2, es]; omega
        · rw [if_pos c, if_neg c2, es]; omega
    · refine key _ ?_ ?_ ?_
      · unfold rmI; rw [if_neg c, if_neg c]; rfl
      · rw [if_neg c, e0]; omega
      · rw [if_neg c, e0]; omega
theorem mo_int (hz : Sz w n ld) (hh : Hts n ld ht) (hI : qInv w n ld dn σ ld) {l : Nat} (hl : l < qN σ) : ∃ r, qM σ l = nI r ∧ r < n ∧ ld r = true ∧ (moF n ht σ l).toInt = fb_si (rmI (qF σ l) ht (ht r).toInt) n ∧ 0 ≤ (moF n ht σ l).toInt ∧ (moF n ht σ l).toInt ≤ 128000000 := by
  have hn := hz.2.2.1
  obtain ⟨r, r1, r2, r3⟩ := q_rim hz hI hl
  have hb := rmF_int (ht := ht) (F := qF σ l) (v := ht r) (hh r r3) (fun i hi => hh i (hI.1.1 l hl i hi)) n hn
  refine ⟨r, r1, r2, r3, ?_⟩
  unfold moF
  rw [r1, cl (by omega)]
  refine ⟨hb.1, hb.2.1, ?_⟩
  have := hb.2.2
  omega
/-- two full parts fit into their double -/
theorem mo_join (hz : Sz w n ld) (hh : Hts n ld ht) (hI : qInv w n ld dn σ ld) (hN : qN σ ≤ 35) {x : Int} (hx : qX ht σ x) {a b c : Nat} (ha : a < qN σ) (hb : b < qN σ) (hc : c < qN σ) (wa : qW σ a = nI c) (wb : qW σ b = nI c) (sa : qsub (qF σ) a c) (sb : qsub (qF σ) b c) (hd : qdis (qF σ) a b) : (moF n ht σ a).toInt + (moF n ht σ b).toInt ≤ (moF n ht σ c).toInt := by
  have hn := hz.2.2.1
  obtain ⟨ra, a1, a2, a3, a4, -⟩ := mo_int hz hh hI ha
  obtain ⟨rb, b1, b2, b3, b4, -⟩ := mo_int hz hh hI hb
  obtain ⟨rc, c1, c2, c3, c4, -⟩ := mo_int hz hh hI hc
  have h1 := hx.2 a c ha hc wa ra rc (by omega) (by omega) a1 c1
  have h2 := hx.2 b c hb hc wb rb rc (by omega) (by omega) b1 c1
  rw [a4, b4, c4, ← fb_si_add]
  refine si_le (fun i _ => ?_)
  unfold rmI
  by_cases p1 : qF σ a i = true
  · have p2 : ¬ qF σ b i = true := fun q => hd i ⟨p1, q⟩
    rw [if_pos p1, if_neg p2, if_pos (sa i p1)]
    by_cases q1 : (ht ra).toInt ≤ (ht i).toInt
    · rw [if_pos q1]
      by_cases q2 : (ht rc).toInt ≤ (ht i).toInt
      · rw [if_pos q2]; omega
      · rw [if_neg q2]; omega
    · rw [if_neg q1, if_neg (by omega)]; omega
  · rw [if_neg p1]
    by_cases p2 : qF σ b i = true
    · rw [if_pos p2, if_pos (sb i p2)]
      by_cases q1 : (ht rb).toInt ≤ (ht i).toInt
      · rw [if_pos q1]
        by_cases q2 : (ht rc).toInt ≤ (ht i).toInt
        · rw [if_pos q2]; omega
        · rw [if_neg q2]; omega
      · rw [if_neg q1, if_neg (by omega)]; omega
    · rw [if_neg p2]
      by_cases p3 : qF σ c i = true
      · rw [if_pos p3]
        by_cases q2 : (ht rc).toInt ≤ (ht i).toInt
        · rw [if_pos q2]; omega
        · rw [if_neg q2]; omega
      · rw [if_neg p3]; omega
theorem WatI_0 (hz : Sz w n ld) (hh : Hts n ld ht) (hI : qInv w n ld dn σ ld) (hy : qY σ) : WatI n ld ht dn σ (fun l => decide (qA σ l = -3)) (fun _ => 0) := by
  refine ⟨fun l m hl hm hne h1 h2 => hy l m hl hm hne (by simpa using h1) (by simpa using h2), fun z hl hd => ?_, fun l hl => ?_⟩
  · obtain ⟨s, s1, s2, s3⟩ := hI.2.2.2.2.2.2.1 z hl hd
    exact ⟨s, s1, by simp [s2], s3⟩
  · obtain ⟨r, -, -, -, -, h5, -⟩ := mo_int hz hh hI hl
    exact ⟨Int.le_refl _, h5⟩
end TIE
