/-! ===== pour: the steps in memory ===== -/
def pR (F : Nat) (η : Mem) (z y4 y5 : Int32) (l : Nat) : Option (Int32 × Mem) :=
  (if z = 0 then (f_MO_pour_L76 F η z y4 y5 (nI l)) else (G (nI l) 64 (if (η.1 75 l) = (-5) then (f_MO_pour_L76 F η z (-5) y5 (nI l)) else (G (nI l) 64 (G (η.1 75 l) 64 ((if (η.1 76 (η.1 75 l).toNatClampNeg) = (nI l) then (G (η.1 75 l) 64 (some (η.1 77 (η.1 75 l).toNatClampNeg))) else (G (η.1 75 l) 64 (some (η.1 76 (η.1 75 l).toNatClampNeg)))).bind fun v13 => G v13 64 ((if (η.1 78 v13.toNatClampNeg) = 0 then ((f_MO_over η (nI l)).bind fun v18 => G v18 64 ((if (η.1 70 v18.toNatClampNeg) = (-5) then (some (-3)) else ((f_MO_lakeAt η (η.1 70 v18.toNatClampNeg)).bind fun v21 => some v21)).bind fun v20 => some ((η.1 70 v18.toNatClampNeg), v20, η))) else (G v13 64 ((f_MO_most η v13).bind fun v23 => if (η.1 79 v13.toNatClampNeg) = v23 then (G (nI l) 64 (G v13 64 (G (η.1 75 l) 64 (G (nI l) 64 (G v13 64 (G (η.1 75 l) 64 (G (nI l) 64 (G v13 64 (some (y4, (η.1 75 l), (sI (sI (sI (sI (sI (sI η 78 l (0 &&& 1)) 78 v13.toNatClampNeg (0 &&& 1)) 78 (η.1 75 l).toNatClampNeg (1 &&& 1)) 79 (η.1 75 l).toNatClampNeg (((sI (sI (sI η 78 l (0 &&& 1)) 78 v13.toNatClampNeg (0 &&& 1)) 78 (η.1 75 l).toNatClampNeg (1 &&& 1)).1 79 l) + ((sI (sI (sI η 78 l (0 &&& 1)) 78 v13.toNatClampNeg (0 &&& 1)) 78 (η.1 75 l).toNatClampNeg (1 &&& 1)).1 79 v13.toNatClampNeg))) 79 l 0) 79 v13.toNatClampNeg 0))))))))))) else ((f_MO_over η (nI l)).bind fun v24 => G v24 64 ((if (η.1 70 v24.toNatClampNeg) = (-5) then (some (-3)) else ((f_MO_lakeAt η (η.1 70 v24.toNatClampNeg)).bind fun v27 => some v27)).bind fun v26 => some ((η.1 70 v24.toNatClampNeg), v26, η)))))).bind fun v17 => f_MO_pour_L76 F v17.2.2 z v17.1 y5 v17.2.1)))))))
section POURM
variable {w n m : Nat} {ld : Nat → Bool} {ht : Nat → Int32} {od : Nat → Nat} {dn we : Nat → Int32} {σ : qLS} {th : Nat → Bool} {wa mo : Nat → Int32} {μ ν : Mem} {l o c r : Nat}
theorem LkC_fill (h : LkC σ mo th wa μ) (x : Int32) : LkC σ mo th (va_up wa l x) (sI μ (28 + l) 7 x) := by
  refine ⟨by rw [sI_ne (by omega)]; exact h.1, fun v hv => ?_⟩
  obtain ⟨k1, k2, k3, k4, k5, k6, k7, k8⟩ := h.2 v hv
  rw [sI_2]
  by_cases e : v = l
  · subst e
    rw [va_up_self, sI_at, sI_off (by decide), sI_off (by decide), sI_off (by decide), sI_off (by decide), sI_off (by decide), sI_off (by decide)]
    exact ⟨k1, k2, k3, k4, k5, k6, k7, rfl⟩
  · rw [va_up_ne _ _ e, sI_ne (by omega)]
    exact ⟨k1, k2, k3, k4, k5, k6, k7, k8⟩
theorem LkM_fill (h : LkM σ th wa ν) (x : Int32) : LkM σ th (va_up wa l x) (sI ν 79 l x) := by
  refine ⟨by rw [sI_ne (by decide)]; exact h.1, fun v hv => ?_⟩
  obtain ⟨k1, k2, k3, k4, k5, k6, k7, k8⟩ := h.2 v hv
  rw [sI_2, sI_ne (p := 74) (by decide), sI_ne (p := 75) (by decide), sI_ne (p := 76) (by decide), sI_ne (p := 77) (by decide), sI_ne (p := 72) (by decide), sI_ne (p := 78) (by decide)]
  refine ⟨k1, k2, k3, k4, k5, k6, k7, ?_⟩
  by_cases e : v = l
  · subst e; rw [va_up_self, sI_at]
  · rw [va_up_ne _ _ e, sI_off e]; exact k8
theorem jth_c : jth th l o c c = true := if_pos rfl
theorem jth_l (h1 : l < c) : jth th l o c l = false := by unfold jth; rw [if_neg (by omega), if_pos rfl]
theorem jth_o (h2 : o < c) (h3 : o ≠ l) : jth th l o c o = false := by unfold jth; rw [if_neg (by omega), if_neg h3, if_pos rfl]
theorem jth_n {v : Nat} (p1 : v ≠ c) (p2 : v ≠ l) (p3 : v ≠ o) : jth th l o c v = th v := by unfold jth; rw [if_neg p1, if_neg p2, if_neg p3]
theorem jwa_c (h1 : l < c) (h2 : o < c) : jwa wa l o c c = wa l + wa o := by unfold jwa; rw [if_neg (by omega), if_neg (by omega), if_pos rfl]
theorem jwa_l (h3 : o ≠ l) : jwa wa l o c l = 0 := by unfold jwa; rw [if_neg (Ne.symm h3), if_pos rfl]
theorem jwa_o : jwa wa l o c o = 0 := if_pos rfl
theorem jwa_n {v : Nat} (p1 : v ≠ c) (p2 : v ≠ l) (p3 : v ≠ o) : jwa wa l o c v = wa v := by unfold jwa; rw [if_neg p3, if_neg p2, if_neg p1]
theorem LkC_join (h : LkC σ mo th wa μ) (hl : l < qN σ) (ho : o < qN σ) (h1 : l < c) (h2 : o < c) (h3 : o ≠ l) : LkC σ mo (jth th l o c) (jwa wa l o c) (f_LK_join μ l o c) := by
  have e1 : μ.1 (28 + l) 7 = wa l := (h.2 l hl).2.2.2.2.2.2.2
  have e2 : μ.1 (28 + o) 7 = wa o := (h.2 o ho).2.2.2.2.2.2.2
  unfold f_LK_join f_LA_vanish f_LA_appear
  rw [e1, e2]
  refine ⟨?_, fun v hv => ?_⟩
  · rw [sI_ne (by omega), sI_ne (by omega), sI_ne (by omega), sI_ne (by omega), sI_ne (by omega), sI_ne (by omega)]
    exact h.1
  · obtain ⟨k1, k2, k3, k4, k5, k6, k7, k8⟩ := h.2 v hv
    rw [sI_2, sI_2, sI_2, sI_2, sI_2, sI_2]
    by_cases p1 : v = c
    · subst p1
      rw [jth_c, jwa_c h1 h2, sI_ne (by omega), sI_ne (by omega), sI_ne (by omega), sI_ne (by omega), sI_at, sI_off (j := 6) (k := 7) (by decide), sI_at, sI_off (j := 1) (k := 7) (by decide), sI_off (j := 1) (k := 6) (by decide), sI_off (j := 2) (k := 7) (by decide), sI_off (j := 2) (k := 6) (by decide), sI_off (j := 3) (k := 7) (by decide), sI_off (j := 3) (k := 6) (by decide), sI_off (j := 4) (k := 7) (by decide), sI_off (j := 4) (k := 6) (by decide), sI_off (j := 5) (k := 7) (by decide), sI_off (j := 5) (k := 6) (by decide)]
      exact ⟨k1, k2, k3, k4, k5, k6, rfl, rfl⟩
    by_cases p2 : v = l
    · subst p2
      rw [jth_l h1, jwa_l h3, sI_ne (by omega), sI_ne (by omega), sI_at, sI_off (j := 6) (k := 7) (by decide), sI_at, sI_off (j := 1) (k := 7) (by decide), sI_off (j := 1) (k := 6) (by decide), sI_off (j := 2) (k := 7) (by decide), sI_off (j := 2) (k := 6) (by decide), sI_off (j := 3) (k := 7) (by decide), sI_off (j := 3) (k := 6) (by decide), sI_off (j := 4) (k := 7) (by decide), sI_off (j := 4) (k := 6) (by decide), sI_off (j := 5) (k := 7) (by decide), sI_off (j := 5) (k := 6) (by decide), sI_ne (by omega), sI_ne (by omega)]
      exact ⟨k1, k2, k3, k4, k5, k6, rfl, rfl⟩
    by_cases p3 : v = o
    · subst p3
      rw [jth_o h2 h3, jwa_o, sI_at, sI_off (j := 6) (k := 7) (by decide), sI_at, sI_off (j := 1) (k := 7) (by decide), sI_off (j := 1) (k := 6) (by decide), sI_off (j := 2) (k := 7) (by decide), sI_off (j := 2) (k := 6) (by decide), sI_off (j := 3) (k := 7) (by decide), sI_off (j := 3) (k := 6) (by decide), sI_off (j := 4) (k := 7) (by decide), sI_off (j := 4) (k := 6) (by decide), sI_off (j := 5) (k := 7) (by decide), sI_off (j := 5) (k := 6) (by decide), sI_ne (by omega), sI_ne (by omega), sI_ne (by omega), sI_ne (by omega)]
      exact ⟨k1, k2, k3, k4, k5, k6, rfl, rfl⟩
    rw [jth_n p1 p2 p3, jwa_n p1 p2 p3, sI_ne (by omega), sI_ne (by omega), sI_ne (by omega), sI_ne (by omega), sI_ne (by omega), sI_ne (by omega)]
    exact ⟨k1, k2, k3, k4, k5, k6, k7, k8⟩
theorem LkM_join (h : LkM σ th wa ν) (h1 : l < c) (h2 : o < c) (h3 : o ≠ l) : LkM σ (jth th l o c) (jwa wa l o c) (sI (sI (sI (sI (sI (sI ν 78 l 0) 78 o 0) 78 c 1) 79 c (wa l + wa o)) 79 l 0) 79 o 0) := by
  refine ⟨?_, fun v hv => ?_⟩
  · rw [sI_ne (by decide), sI_ne (by decide), sI_ne (by decide), sI_ne (by decide), sI_ne (by decide), sI_ne (by decide)]
    exact h.1
  · obtain ⟨k1, k2, k3, k4, k5, k6, k7, k8⟩ := h.2 v hv
    have fr : ∀ q, q ≠ 78 → q ≠ 79 → (sI (sI (sI (sI (sI (sI ν 78 l 0) 78 o 0) 78 c 1) 79 c (wa l + wa o)) 79 l 0) 79 o 0).1 q = ν.1 q := fun q q1 q2 => by
      rw [sI_ne q2, sI_ne q2, sI_ne q2, sI_ne q1, sI_ne q1, sI_ne q1]
    rw [sI_2, sI_2, sI_2, sI_2, sI_2, sI_2, fr 74 (by decide) (by decide), fr 75 (by decide) (by decide), fr 76 (by decide) (by decide), fr 77 (by decide) (by decide), fr 72 (by decide) (by decide)]
    refine ⟨k1, k2, k3, k4, k5, k6, ?_, ?_⟩
    · rw [sI_ne (by decide), sI_ne (by decide), sI_ne (by decide)]
      unfold jth
      by_cases p1 : v = c
      · subst p1; rw [sI_at, if_pos rfl]; rfl
      rw [sI_off p1, if_neg p1]
      by_cases p3 : v = o
      · subst p3; rw [sI_at, if_neg h3, if_pos rfl]; rfl
      rw [sI_off p3]
      by_cases p2 : v = l
      · subst p2; rw [sI_at, if_pos rfl]; rfl
      rw [sI_off p2, if_neg p2, if_neg p3]
      exact k7
    · unfold jwa
      by_cases p3 : v = o
      · subst p3; rw [sI_at, if_pos rfl]
      rw [sI_off p3, if_neg p3]
      by_cases p2 : v = l
      · subst p2; rw [sI_at, if_pos rfl]
      rw [sI_off p2, if_neg p2]
      by_cases p1 : v = c
      · subst p1; rw [sI_at, if_pos rfl]
      rw [sI_off p1, if_neg p1, sI_ne (by decide), sI_ne (by decide), sI_ne (by decide)]
      exact k8
theorem LK_lowest (hz : Sz w n ld) (R : ReC w n ld ht μ) (B : NbC w n ld μ) (LC : LkC σ mo th wa μ) (hS : qSib w n ld σ l o c r) : ∃ v, f_RE_lowestBeside μ (nI r) (μ.2 (28 + o) 0) = some (nI v) ∧ v < n ∧ LowR ht (qF σ o) (nbr w n ld r) 4 (some v) := by
  obtain ⟨⟨a1, -⟩, ⟨-, -, -, -, b5, b6⟩, -, -, -, k, k1, g, k2, k3⟩ := hS
  obtain ⟨x, x1, x2, x3⟩ := RE_lowestBeside hz R B b5 (μ.2 (28 + o) 0)
  rw [show bit (μ.2 (28 + o) 0) = qF σ o from funext (LC.2 o a1).1] at x2
  cases x with
  | none =>
    rw [x2 k k1 g k2] at k3; cases k3
  | some v => exact ⟨v, x1, x3 v rfl, x2⟩
theorem MO_over (hz : Sz w n ld) (M : ReM w n ld ht ν) (LM : LkM σ th wa ν) (hN : qN σ ≤ 35) (hl : l < qN σ) (hS : qSib w n ld σ l o c r) : ∃ v, f_MO_over ν (nI l) = some (nI v) ∧ v < n ∧ LowR ht (qF σ o) (nbr w n ld r) 4 (some v) := by
  have hn := hz.2.2.1
  obtain ⟨⟨a1, a2, a3, a4, a5⟩, ⟨b1, b2, b3, b4, b5, b6⟩, b7, -, -, k, k1, g, k2, k3⟩ := hS
  obtain ⟨v, v1, x, v2, v3, v4⟩ := lp_0 (fun i a k => f_MO_over_L47 ν (nI l) (nI o) i a (nI k)) (fun k a => ∃ x, a = encN x ∧ LowR ht (qF σ o) (nbr w n ld r) k x ∧ ∀ y, x = some y → y < n) (fun a => ∃ x, a = encN x ∧ LowR ht (qF σ o) (nbr w n ld r) 4 x ∧ ∀ y, x = some y → y < n) 4 (-3) (by decide)
    ⟨none, rfl, fun k hk => absurd hk (Nat.not_lt_zero k), fun y hy => by cases hy⟩
    (fun i a g => ⟨a, by show f_MO_over_L47 ν (nI l) (nI o) (i + 1) a (nI 4) = _; rw [f_MO_over_L47.eq_2, if_pos (by decide)], g⟩)
    (fun i a K hK g => by
      obtain ⟨x, rfl, g2, g3⟩ := g
      show ∃ a', _ ∧ f_MO_over_L47 ν (nI l) (nI o) (i + 1) (encN x) (nI K) = f_MO_over_L47 ν (nI l) (nI o) i a' (nI (K + 1))
      obtain ⟨s, s1, s2⟩ := MO_side hz M b5 hK
      rw [f_MO_over_L47.eq_2, if_neg (nge 4 (b := 4) rfl hK (by decide)), G_n (by omega) (by decide), cl (by omega), (LM.2 l hl).2.1, b3, s1, nI_1]
      simp only [Option.bind_some]
      rcases s2 with ⟨rfl, e1, -⟩ | ⟨g, e0, rfl, e1, e2, -⟩ | ⟨g, e0, rfl, e1, e2, -⟩
      · rw [if_pos rfl]
        exact ⟨encN x, ⟨x, rfl, LowR_skip g2 (fun g hg => by rw [e1] at hg; cases hg), g3⟩, rfl⟩
      · rw [if_neg (fun q => by have := nI_inj (a := g) (b := 64) (by omega) (by decide) q; omega), G_n (by omega) (by decide), cl (by omega), M.2.2.1 g e0, e1, if_neg (by decide)]
        exact ⟨encN x, ⟨x, rfl, LowR_skip g2 (fun g hg => by rw [e2] at hg; cases hg), g3⟩, rfl⟩
      · rw [if_neg (fun q => by have := nI_inj (a := g) (b := 64) (by omega) (by decide) q; omega), G_n (by omega) (by decide), cl (by omega), M.2.2.1 g e0, if_pos e1, if_pos rfl, MO_isOf (by omega) (by omega), (LM.2 o a1).1 g]
        simp only [Option.bind_some]
        by_cases hp : qF σ o g = true
        · rw [if_pos hp, if_neg n10]
          cases x with
          | none =>
            rw [show encN none = -3 from rfl, if_pos rfl]
            exact ⟨nI g, ⟨some g, rfl, LowR_take g2 e2 hp (fun a ha => by cases ha), fun y hy => by cases hy; exact e0⟩, rfl⟩
          | some b =>
            have hbn := g3 b rfl
            rw [show encN (some b) = nI b from rfl, if_neg (nI_n3 (by omega)), MO_isLower hn M e0 hbn]
            simp only [Option.bind_some]
            by_cases d : lw ht g b = true
            · rw [if_pos d, if_neg n10]
              exact ⟨nI g, ⟨some g, rfl, LowR_take g2 e2 hp (fun a ha => by cases ha; exact d), fun y hy => by cases hy; exact e0⟩, rfl⟩
            · rw [if_neg d, if_pos rfl]
              exact ⟨nI b, ⟨some b, rfl, LowR_keep g2 e2 d, g3⟩, rfl⟩
        · rw [if_neg hp, if_pos rfl]
          exact ⟨encN x, ⟨x, rfl, LowR_skip g2 (fun y hy => by rw [e2] at hy; cases hy; exact Bool.eq_false_iff.mpr hp), g3⟩, rfl⟩)
  have e : f_MO_over ν (nI l) = some (encN x) := by
    unfold f_MO_over
    have v1' : f_MO_over_L47 ν (nI l) (nI o) FU (-3) 0 = some v := v1
    simp only [G_n (show l < 64 by omega) (show 64 < 2147483648 by decide)]
    rw [cl (by omega), (LM.2 l hl).2.2.1, b1]
    simp only [G_n (show c < 64 by omega) (show 64 < 2147483648 by decide)]
    rw [cl (by omega), (LM.2 c a2).2.2.2.1, (LM.2 c a2).2.2.2.2.1]
    rcases b7 with ⟨p1, p2⟩ | ⟨p1, p2⟩
    · rw [p1, p2, if_pos rfl]
      simp only [Option.bind_some]
      rw [v1', v2]
      rfl
    · rw [p1, p2, if_neg (fun q => a5 (nI_inj (by omega) (by omega) q))]
      simp only [Option.bind_some]
      rw [v1', v2]
      rfl
  cases x with
  | none =>
    rw [v3 k k1 g k2] at k3; cases k3
  | some y => exact ⟨y, e, v4 y rfl, v3⟩
theorem LK_below (hz : Sz w n ld) (R : ReC w n ld ht μ) {v z : Nat} (hv : ld v = true) (hzz : ld z = true) (e : μ.1 21 v = nI z) : f_LK_lakeBelow μ (nI v) = f_LK_thereWith μ (nI z) := by
  have hn := hz.2.2.1
  have vn := hz.2.2.2.2 v hv
  have zn := hz.2.2.2.2 z hzz
  unfold f_LK_lakeBelow
  rw [RE_isLand hz R vn, if_pos hv, if_neg n10, G_n (by omega) (by decide), G_n (by omega) (by decide), cl (by omega), e, RE_isLand hz R zn, if_pos hzz, if_neg n10]
  cases f_LK_thereWith μ (nI z) <;> rfl
theorem LK_isLake_5 : f_LK_isLake μ (-5) = 0 := by
  unfold f_LK_isLake
  rw [if_pos (by decide)]
theorem LK_next_sea (LC : LkC σ mo th wa μ) (hN : qN σ ≤ 35) (hl : l < qN σ) (h5 : qW σ l = -5) : f_LK_next μ (nI l) = some (-5, μ) := by
  unfold f_LK_next
  rw [G_n (by omega) (by decide), cl (by omega), (LC.2 l hl).2.2.1, h5, LK_isLake_5, if_pos rfl]
theorem LK_next_join (LC : LkC σ mo th wa μ) (hN : qN σ ≤ 35) (hl : l < qN σ) (hS : qSib w n ld σ l o c r) (to : th o = true) (fo : wa o = mo o) : f_LK_next μ (nI l) = some (nI c, f_LK_join μ l o c) := by
  obtain ⟨⟨a1, a2, a3, a4, a5⟩, ⟨b1, b2, b3, b4, b5, b6⟩, b7, -⟩ := hS
  unfold f_LK_next
  simp only [G_n (show l < 35 by omega) (show 35 < 2147483648 by decide)]
  rw [cl (k := l) (by omega), (LC.2 l hl).2.2.1, b1, LK_isLake LC.1 a2 (by omega), if_neg n10]
  simp only [G_n (show c < 35 by omega) (show 35 < 2147483648 by decide)]
  rw [cl (k := c) (by omega), (LC.2 c a2).2.2.2.1, (LC.2 c a2).2.2.2.2.1]
  have fin : ((some (nI o)).bind fun v3 => if f_LK_isLake μ v3 = 0 then some (-5, μ) else G v3 35 (if f_LA_isFull μ v3.toNatClampNeg = 0 then G v3 35 ((f_RE_lowestBeside μ (μ.1 (28 + l) 1) (μ.2 (28 + v3.toNatClampNeg) 0)).bind fun v9 => (f_LK_lakeBelow μ v9).bind fun v10 => some (v10, μ)) else G v3 35 (some (nI c, f_LK_join μ l v3.toNatClampNeg c)))) = some (nI c, f_LK_join μ l o c) := by
    simp only [Option.bind_some]
    rw [LK_isLake LC.1 a1 (by omega), if_neg n10, G_n (by omega) (by decide), cl (by omega)]
    unfold f_LA_isFull
    rw [(LC.2 o a1).2.2.2.2.2.2.1, (LC.2 o a1).2.2.2.2.2.2.2, (LC.2 o a1).2.2.2.2.2.1, if_pos to, if_neg n10, if_pos fo, if_neg n10, G_n (by omega) (by decide)]
  rcases b7 with ⟨p1, p2⟩ | ⟨p1, p2⟩
  · rw [p1, p2, if_pos rfl]
    exact fin
  · rw [p1, p2, if_neg (fun q => a5 (nI_inj (by omega) (by omega) q))]
    exact fin
theorem LK_next_over (LC : LkC σ mo th wa μ) (hN : qN σ ≤ 35) (hl : l < qN σ) (hS : qSib w n ld σ l o c r) (hno : ¬ (th o = true ∧ wa o = mo o)) {v : Nat} (hv : f_RE_lowestBeside μ (nI r) (μ.2 (28 + o) 0) = some (nI v)) : f_LK_next μ (nI l) = (f_LK_lakeBelow μ (nI v)).bind fun v10 => some (v10, μ) := by
  obtain ⟨⟨a1, a2, a3, a4, a5⟩, ⟨b1, b2, b3, b4, b5, b6⟩, b7, -⟩ := hS
  unfold f_LK_next
  simp only [G_n (show l < 35 by omega) (show 35 < 2147483648 by decide)]
  rw [cl (k := l) (by omega), (LC.2 l hl).2.2.1, (LC.2 l hl).2.1, b1, b3, LK_isLake LC.1 a2 (by omega), if_neg n10]
  simp only [G_n (show c < 35 by omega) (show 35 < 2147483648 by decide)]
  rw [cl (k := c) (by omega), (LC.2 c a2).2.2.2.1, (LC.2 c a2).2.2.2.2.1]
  have fin : ((some (nI o)).bind fun v3 => if f_LK_isLake μ v3 = 0 then some (-5, μ) else G v3 35 (if f_LA_isFull μ v3.toNatClampNeg = 0 then G v3 35 ((f_RE_lowestBeside μ (nI r) (μ.2 (28 + v3.toNatClampNeg) 0)).bind fun v9 => (f_LK_lakeBelow μ v9).bind fun v10 => some (v10, μ)) else G v3 35 (some (nI c, f_LK_join μ l v3.toNatClampNeg c)))) = (f_LK_lakeBelow μ (nI v)).bind fun v10 => some (v10, μ) := by
    simp only [Option.bind_some]
    have hf : f_LA_isFull μ o = 0 := by
      unfold f_LA_isFull
      rw [(LC.2 o a1).2.2.2.2.2.2.1, (LC.2 o a1).2.2.2.2.2.2.2, (LC.2 o a1).2.2.2.2.2.1]
      by_cases t : th o = true
      · rw [if_pos t, if_neg n10, if_neg (fun q => hno ⟨t, q⟩)]
      · rw [if_neg t, if_pos rfl]
    rw [LK_isLake LC.1 a1 (by omega), if_neg n10, G_n (by omega) (by decide), cl (by omega), hf, if_pos rfl, G_n (by omega) (by decide), hv]
    rfl
  rcases b7 with ⟨p1, p2⟩ | ⟨p1, p2⟩
  · rw [p1, p2, if_pos rfl]
    exact fin
  · rw [p1, p2, if_neg (fun q => a5 (nI_inj (by omega) (by omega) q))]
    exact fin
/-! the reference's step -/
theorem pR_0 (F : Nat) (η : Mem) {z : Int32} (y4 y5 : Int32) (l : Nat) (hz : z = 0) : pR F η z y4 y5 l = f_MO_pour_L76 F η z y4 y5 (nI l) := by
  unfold pR
  rw [if_pos hz]
theorem pR_sea (LM : LkM σ th wa ν) (hN : qN σ ≤ 35) (hl : l < qN σ) (h5 : qW σ l = -5) (F : Nat) {z : Int32} (y4 y5 : Int32) (hz : ¬ z = 0) : pR F ν z y4 y5 l = f_MO_pour_L76 F ν z (-5) y5 (nI l) := by
  unfold pR
  rw [if_neg hz, G_n (by omega) (by decide), (LM.2 l hl).2.2.1, if_pos h5]
theorem pR_join (hz' : Sz w n ld) (hI : qInv w n ld dn σ ld) (M : ReM w n ld ht ν) (LM : LkM σ th wa ν) (hN : qN σ ≤ 35) (hl : l < qN σ) (hS : qSib w n ld σ l o c r) (to : th o = true) (fo : wa o = moF n ht σ o) (F : Nat) {z : Int32} (y4 y5 : Int32) (hz : ¬ z = 0) : pR F ν z y4 y5 l = f_MO_pour_L76 F (sI (sI (sI (sI (sI (sI ν 78 l 0) 78 o 0) 78 c 1) 79 c (wa l + wa o)) 79 l 0) 79 o 0) z y4 y5 (nI c) := by
  obtain ⟨⟨a1, a2, a3, a4, a5⟩, ⟨b1, b2, b3, b4, b5, b6⟩, b7, -⟩ := hS
  unfold pR
  rw [if_neg hz, (LM.2 l hl).2.2.1, b1, if_neg (nI_n5 (by omega))]
  simp only [G_n (show l < 64 by omega) (show 64 < 2147483648 by decide), G_n (show c < 64 by omega) (show 64 < 2147483648 by decide)]
  rw [cl (k := c) (by omega), (LM.2 c a2).2.2.2.1, (LM.2 c a2).2.2.2.2.1]
  have eo : (if qA σ c = nI l then some (qB σ c) else some (qA σ c)) = some (nI o) := by
    rcases b7 with ⟨p1, p2⟩ | ⟨p1, p2⟩
    · rw [p1, p2, if_pos rfl]
    · rw [p1, p2, if_neg (fun q => a5 (nI_inj (by omega) (by omega) q))]
  rw [eo]
  simp only [Option.bind_some]
  simp only [G_n (show o < 64 by omega) (show 64 < 2147483648 by decide)]
  rw [cl (k := o) (by omega), (LM.2 o a1).2.2.2.2.2.2.1, if_pos to, if_neg n10, LM.most hz' hI M hN a1]
  simp only [Option.bind_some]
  rw [(LM.2 o a1).2.2.2.2.2.2.2, if_pos fo]
  simp only [Option.bind_some]
  have q1 : (sI (sI (sI ν 78 l (0 &&& 1)) 78 o (0 &&& 1)) 78 c (1 &&& 1)).1 79 l = wa l := by
    rw [sI_ne (by decide), sI_ne (by decide), sI_ne (by decide)]; exact (LM.2 l hl).2.2.2.2.2.2.2
  have q2 : (sI (sI (sI ν 78 l (0 &&& 1)) 78 o (0 &&& 1)) 78 c (1 &&& 1)).1 79 o = wa o := by
    rw [sI_ne (by decide), sI_ne (by decide), sI_ne (by decide)]; exact (LM.2 o a1).2.2.2.2.2.2.2
  rw [q1, q2]
  rfl
theorem pR_over (hz' : Sz w n ld) (hI : qInv w n ld dn σ ld) (M : ReM w n ld ht ν) (LM : LkM σ th wa ν) (hN : qN σ ≤ 35) (hl : l < qN σ) (hS : qSib w n ld σ l o c r) (hno : ¬ (th o = true ∧ wa o = moF n ht σ o)) {v x y : Nat} (h1 : f_MO_over ν (nI l) = some (nI v)) (hv : v < n) (h2 : ν.1 70 v = nI y) (hy : y < n) (h3 : f_MO_lakeAt ν (nI y) = some (nI x)) (F : Nat) {z : Int32} (y4 y5 : Int32) (hz : ¬ z = 0) : pR F ν z y4 y5 l = f_MO_pour_L76 F ν z (nI y) y5 (nI x) := by
  have hn := hz'.2.2.1
  obtain ⟨⟨a1, a2, a3, a4, a5⟩, ⟨b1, b2, b3, b4, b5, b6⟩, b7, -⟩ := hS
  unfold pR
  rw [if_neg hz, (LM.2 l hl).2.2.1, b1, if_neg (nI_n5 (by omega))]
  simp only [G_n (show l < 64 by omega) (show 64 < 2147483648 by decide), G_n (show c < 64 by omega) (show 64 < 2147483648 by decide)]
  rw [cl (k := c) (by omega), (LM.2 c a2).2.2.2.1, (LM.2 c a2).2.2.2.2.1]
  have eo : (if qA σ c = nI l then some (qB σ c) else some (qA σ c)) = some (nI o) := by
    rcases b7 with ⟨p1, p2⟩ | ⟨p1, p2⟩
    · rw [p1, p2, if_pos rfl]
    · rw [p1, p2, if_neg (fun q => a5 (nI_inj (by omega) (by omega) q))]
  rw [eo]
  simp only [Option.bind_some]
  simp only [G_n (show o < 64 by omega) (show 64 < 2147483648 by decide)]
  rw [cl (k := o) (by omega), (LM.2 o a1).2.2.2.2.2.2.1, h1]
  simp only [Option.bind_some]
  simp only [G_n (show v < 64 by omega) (show 64 < 2147483648 by decide)]
  rw [cl (k := v) (by omega), h2, if_neg (nI_n5 (by omega)), h3]
  simp only [Option.bind_some]
  by_cases t : th o = true
  · rw [if_pos t, if_neg n10, LM.most hz' hI M hN a1]
    simp only [Option.bind_some]
    rw [(LM.2 o a1).2.2.2.2.2.2.2, if_neg (fun q => hno ⟨t, q⟩)]
    rfl
  · rw [if_neg t, if_pos rfl]
    rfl
end POURM
