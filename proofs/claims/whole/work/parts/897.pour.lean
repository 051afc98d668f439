/-! ===== pour ===== -/
section POUR
variable {w n m : Nat} {ld : Nat → Bool} {ht : Nat → Int32} {od : Nat → Nat} {dn we : Nat → Int32} {σ : qLS} {th : Nat → Bool} {wa : Nat → Int32} {μ ν μ0 ν0 : Mem} {l : Nat}
def PFr (μ0 ν0 μ ν : Mem) : Prop := (∀ q, q < 28 → μ.1 q = μ0.1 q) ∧ μ.2 = μ0.2 ∧ (∀ q, q ≠ 78 → q ≠ 79 → ν.1 q = ν0.1 q) ∧ ν.2 = ν0.2
theorem PFr.geo (h : PFr μ0 ν0 μ ν) (g : GeoT w n m ld ht od dn we μ0 ν0) : GeoT w n m ld ht od dn we μ ν := g.of (fun q _ b => h.1 q (by omega)) (by rw [h.2.1]) (by rw [h.2.2.1 63 (by decide) (by decide)]) (by rw [h.2.2.1 63 (by decide) (by decide)]) (fun q _ b => h.2.2.1 q (by omega) (by omega))
/-- what is taken, on both sides -/
theorem two_take {a b x : Int32} (ha : 0 ≤ a.toInt ∧ a.toInt ≤ 128000000) (hb : 0 ≤ b.toInt ∧ b.toInt ≤ a.toInt) (hx : 0 < x.toInt ∧ x.toInt ≤ 1000000) : ∃ t : Int32, (if a - b < x then a - b else x) = t ∧ (if a - b ≤ x then some (a - b) else some x) = some t ∧ 0 ≤ (b + t).toInt ∧ (b + t).toInt ≤ a.toInt ∧ ((x - t = 0 ∧ (x - t) ≤ 0) ∨ (¬ (x - t) ≤ 0 ∧ ¬ x - t = 0 ∧ 0 < (x - t).toInt ∧ (x - t).toInt ≤ 1000000 ∧ b + t = a)) := by
  have e0 : (0 : Int32).toInt = 0 := rfl
  have es : (a - b).toInt = a.toInt - b.toInt := fb_subI (by omega) (by omega)
  by_cases c : a - b < x
  · have c' := c
    rw [fa_lt, es] at c'
    have ea : (b + (a - b)).toInt = a.toInt := by rw [fb_addI (by rw [es]; omega) (by rw [es]; omega), es]; omega
    have ex : (x - (a - b)).toInt = x.toInt - (a.toInt - b.toInt) := by rw [fb_subI (by rw [es]; omega) (by rw [es]; omega), es]
    refine ⟨a - b, if_pos c, if_pos (fa_of_lt c).1, by rw [ea]; omega, by rw [ea]; omega, Or.inr ⟨?_, ?_, ?_, ?_, ?_⟩⟩
    · rw [fa_le, ex, e0]; omega
    · rw [fa_eq, ex, e0]; omega
    · rw [ex]; omega
    · rw [ex]; omega
    · rw [fa_eq, ea]
  · have c' := c
    rw [fa_lt, es] at c'
    have ea : (b + x).toInt = b.toInt + x.toInt := fb_addI (by omega) (by omega)
    have ez : x - x = 0 := by rw [fa_eq, fb_subI (by omega) (by omega), e0]; omega
    refine ⟨x, if_neg c, ?_, by rw [ea]; omega, by rw [ea]; omega, Or.inl ⟨ez, by rw [ez]; exact Int32.le_refl _⟩⟩
    by_cases d : a - b ≤ x
    · rw [if_pos d]
      rw [fa_le, es] at d
      congr 1
      rw [fa_eq, es]
      omega
    · rw [if_neg d]
theorem pR_of (hz : Sz w n ld) (hI : qInv w n ld dn σ ld) (M : ReM w n ld ht ν) (LM : LkM σ th wa ν) (hN : qN σ ≤ 35) (hl : l < qN σ) {x y4 t : Int32} (hx : ¬ x ≤ 0) (hy : ¬ y4 = -5) (ht' : (if moF n ht σ l - wa l ≤ x then some (moF n ht σ l - wa l) else some x) = some t) (F : Nat) (y5 : Int32) : f_MO_pour_L76 (F + 1) ν x y4 y5 (nI l) = pR F (sI ν 79 l (wa l + t)) (x - t) y4 y5 l := by
  rw [f_MO_pour_L76.eq_2, if_neg hx, if_neg hy, LM.most hz hI M hN hl]
  simp only [Option.bind_some]
  simp only [G_n (show l < 64 by omega) (show 64 < 2147483648 by decide)]
  rw [cl (k := l) (by omega), (LM.2 l hl).2.2.2.2.2.2.2, ht']
  simp only [Option.bind_some]
  unfold pR
  simp only [G_n (show l < 64 by omega) (show 64 < 2147483648 by decide)]
theorem pour_loop (G0 : GeoT w n m ld ht od dn we μ0 ν0) (T : TreeP w n ld ht dn σ) :
    ∀ (d k F1 F2 : Nat) (μ ν : Mem) (th : Nat → Bool) (wa : Nat → Int32) (V : Nat → Bool) (l : Nat) (x y4 : Int32), k + d = 36 → d < F1 → d + 3 < F2 → PFr μ0 ν0 μ ν → LkC σ (moF n ht σ) th wa μ → LkM σ th wa ν → WatI n ld ht dn σ th wa → VisI w n ld ht σ th wa V l → fb_ct V (qN σ) = k → l < qN σ → th l = true → (0 < x.toInt ∧ x.toInt ≤ 1000000) → ¬ y4 = -5 →
    ∃ (r : Int32) (μ' ν' : Mem) (th' : Nat → Bool) (wa' : Nat → Int32), f_LK_runDown_L8 F1 μ x (nI l) (nI k) = some (r, μ') ∧ f_MO_pour_L76 F2 ν x y4 0 (nI l) = some (r, ν') ∧ PFr μ0 ν0 μ' ν' ∧ LkC σ (moF n ht σ) th' wa' μ' ∧ LkM σ th' wa' ν' ∧ WatI n ld ht dn σ th' wa' := by
  have e0 : (0 : Int32).toInt = 0 := rfl
  obtain ⟨hI, hN, hX⟩ := id T
  intro d
  induction d with
  | zero =>
    intro k F1 F2 μ ν th wa V l x y4 hk _ _ _ _ _ _ hV hct hl tl _ _
    exfalso
    have := (vadd_ct hl (vis_not hI hl tl hV)).2
    omega
  | succ d ih =>
    intro k F1 F2 μ ν th wa V l x y4 hk hF1 hF2 hfr LC LM W hV hct hl tl hx hy
    have nV := vis_not hI hl tl hV
    obtain ⟨hc1, hc2⟩ := vadd_ct hl nV
    obtain ⟨F1, rfl⟩ : ∃ z, F1 = z + 2 := ⟨F1 - 2, by omega⟩
    obtain ⟨F2, rfl⟩ : ∃ z, F2 = z + 4 := ⟨F2 - 4, by omega⟩
    obtain ⟨hz, hh, hm, R, B, O, M, D, Vw, V2⟩ := hfr.geo G0
    have hn := hz.2.2.1
    obtain ⟨-, -, -, -, -, m5, m6⟩ := mo_int hz hh hI hl
    have hw := W.2.2 l hl
    obtain ⟨t, t1, t2, t3, t4, t5⟩ := two_take ⟨m5, m6⟩ hw hx
    have h35 : ∀ j, j ≤ 35 → ¬ (35 : Int32) < nI j := fun j hj => nI_nlt (a := 35) (b := j) hj (by decide)
    have hx0 : ¬ x ≤ 0 := by rw [fa_le, e0]; omega
    -- both fill
    have LC1 := LkC_fill (l := l) LC (wa l + t)
    have LM1 := LkM_fill (l := l) LM (wa l + t)
    have W1 := wat_fill (l := l) W ⟨t3, t4⟩
    have hfr1 : PFr μ0 ν0 (sI μ (28 + l) 7 (wa l + t)) (sI ν 79 l (wa l + t)) := ⟨fun q hq => by rw [sI_ne (by omega)]; exact hfr.1 q hq, hfr.2.1, fun q q1 q2 => by rw [sI_ne q2]; exact hfr.2.2.1 q q1 q2, hfr.2.2.2⟩
    have eC : f_LK_runDown_L8 (F1 + 2) μ x (nI l) (nI k) = ((if x - t ≤ 0 then some (nI l, sI μ (28 + l) 7 (wa l + t)) else (f_LK_next (sI μ (28 + l) 7 (wa l + t)) (nI l)).bind fun v3 => some (v3.1, v3.2)).bind fun v2 => f_LK_runDown_L8 (F1 + 1) v2.2 (x - t) v2.1 (nI (k + 1))) := by
      rw [f_LK_runDown_L8.eq_2, if_neg (h35 k (by omega)), if_neg hx0, LK_isLake LC.1 hl (by omega), if_neg n10, G_n (by omega) (by decide), nI_1]
      unfold f_LK_fillUp
      rw [cl (by omega), (LC.2 l hl).2.2.2.2.2.1, (LC.2 l hl).2.2.2.2.2.2.2, t1]
    rw [eC, pR_of hz hI M LM hN hl hx0 hy t2]
    rcases t5 with ⟨z1, z2⟩ | ⟨z1, z2, z3, z4, z5⟩
    · -- all is taken
      rw [if_pos z2, pR_0 _ _ _ _ _ z1]
      simp only [Option.bind_some]
      refine ⟨x - t, _, _, th, va_up wa l (wa l + t), ?_, ?_, hfr1, LC1, LM1, W1⟩
      · rw [f_LK_runDown_L8.eq_2, if_neg (h35 (k + 1) (by omega)), if_pos z2]
      · rw [f_MO_pour_L76.eq_2, if_pos z2, z1]
    · rw [if_neg z1]
      have fl : (va_up wa l (wa l + t)) l = moF n ht σ l := by rw [va_up_self]; exact z5
      have hV1 := vis_wa (x := wa l + t) nV hV
      obtain ⟨-, -, -, R1, B1, -, M1, -, Vw1, V21⟩ := hfr1.geo G0
      by_cases h5 : qW σ l = -5
      · -- the rim is one to the sea
        rw [LK_next_sea LC1 hN hl h5, pR_sea LM1 hN hl h5 _ _ _ z2]
        simp only [Option.bind_some]
        refine ⟨x - t, _, _, th, va_up wa l (wa l + t), ?_, ?_, hfr1, LC1, LM1, W1⟩
        · rw [f_LK_runDown_L8.eq_2, if_neg (h35 (k + 1) (by omega)), if_neg z1, LK_isLake_5, if_pos rfl]
        · rw [f_MO_pour_L76.eq_2, if_neg z1, if_pos rfl, f_MO_pour_L76.eq_2, if_pos (by decide)]
      · obtain ⟨o, c, r, hS⟩ := sib_of hz hI hN hl h5
        obtain ⟨⟨a1, a2, a3, a4, a5⟩, -⟩ := id hS
        by_cases hf : th o = true ∧ (va_up wa l (wa l + t)) o = moF n ht σ o
        · -- both parts are full
          rw [LK_next_join LC1 hN hl hS hf.1 hf.2, pR_join hz hI M1 LM1 hN hl hS hf.1 hf.2 _ _ _ z2]
          simp only [Option.bind_some]
          have LC2 := LkC_join LC1 hl a1 a3 a4 a5
          have LM2 := LkM_join LM1 a3 a4 a5
          have W2 := wat_join hz hh T W1 hl tl hf.1 fl hf.2 hS
          have V2' := vis_join hI hN W1 hl tl hf.1 hS hV1
          refine ih (k + 1) (F1 + 1) (F2 + 3) _ _ _ _ _ c (x - t) y4 (by omega) (by omega) (by omega) ?_ LC2 LM2 W2 V2' (by rw [hc1, hct]) a2 jth_c ⟨z3, z4⟩ hy
          refine ⟨fun q hq => ?_, ?_, fun q q1 q2 => ?_, ?_⟩
          · unfold f_LK_join f_LA_vanish f_LA_appear
            rw [sI_ne (by omega), sI_ne (by omega), sI_ne (by omega), sI_ne (by omega), sI_ne (by omega), sI_ne (by omega)]
            exact hfr1.1 q hq
          · exact hfr1.2.1
          · rw [sI_ne q2, sI_ne q2, sI_ne q2, sI_ne q1, sI_ne q1, sI_ne q1]
            exact hfr1.2.2.1 q q1 q2
          · exact hfr1.2.2.2
        · -- over the rim
          obtain ⟨v, v1, v2, v3⟩ := LK_lowest hz R1 B1 LC1 hS
          obtain ⟨v', u1, u2, u3⟩ := MO_over hz M1 LM1 hN hl hS
          have ev : v' = v := by
            have := LowR_one u3 v3
            cases this
            rfl
          subst ev
          have hFo : qF σ o v' = true := v3.1
          have hlv : ld v' = true := hI.1.1 o a1 v' hFo
          obtain ⟨z, w1, w2, w3, w4, w5⟩ := way_in (ht := ht) hz hI D a1 v' hlv hFo
          obtain ⟨y, y1, y2, y3, y5⟩ := two_there LC1 LM1 hN W1.1 (g := z) (by omega)
          have hy' : ∃ q, y = some q := by
            cases y with
            | some q => exact ⟨q, rfl⟩
            | none =>
              obtain ⟨q, q1, q2, q3⟩ := W1.2.1 z w3 w4
              rw [y3 rfl q q1 q2] at q3; cases q3
          obtain ⟨q, rfl⟩ := hy'
          obtain ⟨q1, q2, q3⟩ := y5 q rfl
          rw [LK_next_over LC1 hN hl hS hf v1, LK_below hz R1 hlv w3 (by rw [(Vw1 v' hlv).2.1]; exact w1), y1, pR_over hz hI M1 LM1 hN hl hS hf u1 u2 (by rw [V21 v' u2, if_pos hlv]; exact w1) w2 y2 _ _ _ z2]
          simp only [Option.bind_some]
          have hxo := over_in hI W1 hl hS tl q1 q2 q3 w5
          exact ih (k + 1) (F1 + 1) (F2 + 3) _ _ _ _ _ q (x - t) (nI z) (by omega) (by omega) (by omega) hfr1 LC1 LM1 W1 (vis_over hI hN hl tl fl hS hf hxo hV1) (by rw [hc1, hct]) q1 q2 ⟨z3, z4⟩ (nI_n5 (by omega))
theorem j_pour (a b : Int32) (hJ : JJ μ ν) : ∃ (r : Int32) (μ' ν' : Mem), f_LR_pour μ a b = some (r, μ') ∧ f_MO_pour ν a b = some (r, ν') ∧ JJ μ' ν' := by
  have e0 : (0 : Int32).toInt = 0 := rfl
  have eM : (1000000 : Int32).toInt = 1000000 := rfl
  unfold f_LR_pour f_MO_pour
  rcases hJ.2 with ⟨q1, q2⟩ | ⟨q1, q2, hL⟩
  · rw [q1, q2, if_pos rfl, if_pos rfl]
    exact ⟨_, μ, ν, rfl, rfl, hJ⟩
  obtain ⟨w, n, m, ld, ht, od, dn, we, σ, th, wa, G, T, LC, LM, W, h6, h7⟩ := id hL
  obtain ⟨hz, hh, hm, R, B, O, M, D, V, V2⟩ := id G
  have hn := hz.2.2.1
  have hN := T.2.1
  rw [q1, q2, if_neg n10, if_neg n10]
  rcases two_fields hz R M a with ⟨c1, c2⟩ | ⟨f, hf, rfl, c1, c2⟩
  · rw [c1, c2, if_pos rfl]
    exact ⟨_, μ, ν, rfl, rfl, hJ⟩
  rw [c1, c2, if_neg n10]
  simp only [Option.bind_some]
  rw [if_neg n10]
  by_cases b0 : b < 0
  · rw [if_pos b0, show f_MO_in b.toInt64 0 1000000 = 0 from MOin_no (x := b) (a := 0) (b := 1000000) (Or.inl b0), if_pos rfl]
    exact ⟨_, μ, ν, rfl, rfl, hJ⟩
  rw [if_neg b0]
  by_cases b1 : b ≤ 1000000
  · rw [if_pos b1, show f_MO_in b.toInt64 0 1000000 = 1 from MOin_yes (x := b) (a := 0) (b := 1000000) (Int32.not_lt.mp b0) b1, if_neg n10, G_n (by omega) (by decide), cl (by omega)]
    rw [fa_lt, e0] at b0
    rw [fa_le, eM] at b1
    -- the reference has counted them first
    have G1 : GeoT w n m ld ht od dn we μ (sJ ν 63 21 (ν.2 63 21 + b.toInt64)) := G.of (fun _ _ _ => rfl) rfl rfl rfl (fun _ _ _ => rfl)
    have LM1 : LkM σ th wa (sJ ν 63 21 (ν.2 63 21 + b.toInt64)) := LM.of rfl (fun _ _ _ => rfl) (by rw [sJ_ne (by decide)])
    have e70 : (sJ ν 63 21 (ν.2 63 21 + b.toInt64)).1 70 f = if ld f = true then we f else -5 := V2 f hf
    rw [e70]
    -- what both come to
    have fin : ∀ (r : Int32) (μ' ν' : Mem) (th' : Nat → Bool) (wa' : Nat → Int32), PFr μ (sJ ν 63 21 (ν.2 63 21 + b.toInt64)) μ' ν' → LkC σ (moF n ht σ) th' wa' μ' → LkM σ th' wa' ν' → WatI n ld ht dn σ th' wa' → JJ (sJ (sJ μ' 26 3 (μ'.2 26 3 + b.toInt64)) 26 2 ((sJ μ' 26 3 (μ'.2 26 3 + b.toInt64)).2 26 2 + r.toInt64)) (sJ ν' 63 20 (ν'.2 63 20 + r.toInt64)) := by
      intro r μ' ν' th' wa' hfr LC' LM' W'
      refine ⟨fun i hi => ?_, Or.inr ⟨?_, ?_, w, n, m, ld, ht, od, dn, we, σ, th', wa', ?_, T, ?_, ?_, W', ?_, ?_⟩⟩
      · rw [sJ_1, sJ_1, sJ_1, hfr.1 (2 + i) (by omega), hfr.1 (10 + i) (by omega), hfr.2.2.1 64 (by decide) (by decide), hfr.2.2.1 65 (by decide) (by decide), hfr.2.2.1 66 (by decide) (by decide), sJ_1]
        exact hJ.1 i hi
      · rw [sJ_1, sJ_1, hfr.1 0 (by decide)]; exact q1
      · rw [sJ_1, hfr.2.2.1 63 (by decide) (by decide), sJ_1]; exact q2
      · exact (hfr.geo G1).of (fun _ _ _ => rfl) (by rw [sJ_ne (by decide), sJ_ne (by decide)]) rfl rfl (fun _ _ _ => rfl)
      · exact LC'.of hN (fun _ _ _ => rfl) (fun q h1 _ => by rw [sJ_ne (by omega), sJ_ne (by omega)])
      · exact LM'.of rfl (fun _ _ _ => rfl) (by rw [sJ_ne (by decide)])
      · rw [sJ_at, sJ_off (by decide), sJ_at, hfr.2.1, hfr.2.2.2, sJ_off (by decide), h6]
      · rw [sJ_off (by decide), sJ_at, sJ_off (by decide), hfr.2.1, hfr.2.2.2, sJ_at, h7]
    have fr0 : PFr μ (sJ ν 63 21 (ν.2 63 21 + b.toInt64)) μ (sJ ν 63 21 (ν.2 63 21 + b.toInt64)) := ⟨fun _ _ => rfl, rfl, fun _ _ _ => rfl, rfl⟩
    -- no grains, or none to a lake
    have sea : ∀ (x y4 y6 : Int32), (y4 = -5 ∨ b ≤ 0) → (f_LK_isLake μ x = 0 ∨ b ≤ 0) → f_LK_runDown_L8 FU μ b x 0 = some (b, μ) ∧ f_MO_pour_L76 FU (sJ ν 63 21 (ν.2 63 21 + b.toInt64)) b y4 0 y6 = some (b, sJ ν 63 21 (ν.2 63 21 + b.toInt64)) := by
      intro x y4 y6 h1 h2
      constructor
      · show f_LK_runDown_L8 (999999 + 1) μ b x 0 = _
        rw [f_LK_runDown_L8.eq_2, if_neg (by decide)]
        by_cases c : b ≤ 0
        · rw [if_pos c]
        · rw [if_neg c, h2.resolve_right c, if_pos rfl]
      · show f_MO_pour_L76 (999998 + 1 + 1) _ b y4 0 y6 = _
        rw [f_MO_pour_L76.eq_2]
        by_cases c : b ≤ 0
        · rw [if_pos c]
          rw [fa_le, e0] at c
          have : b = 0 := by rw [fa_eq, e0]; omega
          rw [this]
        · rw [if_neg c, if_pos (h1.resolve_right c), f_MO_pour_L76.eq_2, if_pos (by decide)]
    unfold f_LK_takeGrains f_LK_runDown
    by_cases c : ld f = true
    · rw [if_pos c]
      rcases way_end (ht := ht) hz D f c with e | ⟨z, e1, e2, e3, e4⟩
      · -- the way ends in the sea
        have eb : f_LK_lakeBelow μ (nI f) = some (-5) := by
          unfold f_LK_lakeBelow
          rw [RE_isLand hz R hf, if_pos c, if_neg n10, G_n (by omega) (by decide), cl (by omega), (V f c).2.1, e, RE_isLand_no hz R (fun q => absurd q.1 (by decide)), if_pos rfl]
        obtain ⟨s1, s2⟩ := sea (-5) (-5) (-3) (Or.inl rfl) (Or.inl LK_isLake_5)
        rw [eb, e, if_pos rfl]
        simp only [Option.bind_some]
        rw [s1, s2]
        exact ⟨b, _, _, rfl, rfl, fin b μ _ th wa fr0 LC LM1 W⟩
      · obtain ⟨y, y1, y2, y3, y5⟩ := two_there LC LM1 hN W.1 (g := z) (by omega)
        have hy' : ∃ q, y = some q := by
          cases y with
          | some q => exact ⟨q, rfl⟩
          | none =>
            obtain ⟨q, q1, q2, q3⟩ := W.2.1 z e3 e4
            rw [y3 rfl q q1 q2] at q3; cases q3
        obtain ⟨q, rfl⟩ := hy'
        obtain ⟨p1, p2, p3⟩ := y5 q rfl
        rw [LK_below hz R c e3 (by rw [(V f c).2.1]; exact e1), y1, e1, if_neg (nI_n5 (by omega)), y2]
        simp only [Option.bind_some]
        by_cases hb : b ≤ 0
        · obtain ⟨s1, s2⟩ := sea (nI q) (nI z) (nI q) (Or.inr hb) (Or.inr hb)
          rw [show encN (some q) = nI q from rfl, s1, s2]
          exact ⟨b, _, _, rfl, rfl, fin b μ _ th wa fr0 LC LM1 W⟩
        · rw [fa_le, e0] at hb
          obtain ⟨r, μ', ν', th', wa', r1, r2, r3, r4, r5, r6⟩ := pour_loop G1 T 36 0 FU FU μ (sJ ν 63 21 (ν.2 63 21 + b.toInt64)) th wa (fun _ => false) q b (nI z) (by omega) (by unfold FU; omega) (by unfold FU; omega) fr0 LC LM1 W (fun v _ h => by cases h) (fb_ct_zero.mpr (fun _ _ => rfl)) p1 p2 ⟨by omega, b1⟩ (nI_n5 (by omega))
          rw [show encN (some q) = nI q from rfl, show f_LK_runDown_L8 FU μ b (nI q) 0 = some (r, μ') from r1, r2]
          exact ⟨r, _, _, rfl, rfl, fin r μ' ν' th' wa' r3 r4 r5 r6⟩
    · -- sea
      have eb : f_LK_lakeBelow μ (nI f) = some (-5) := by
        unfold f_LK_lakeBelow
        rw [RE_isLand hz R hf, if_neg c, if_pos rfl]
      obtain ⟨s1, s2⟩ := sea (-5) (-5) (-3) (Or.inl rfl) (Or.inl LK_isLake_5)
      rw [eb, if_neg c, if_pos rfl]
      simp only [Option.bind_some]
      rw [s1, s2]
      exact ⟨b, _, _, rfl, rfl, fin b μ _ th wa fr0 LC LM1 W⟩
  · rw [if_neg b1, show f_MO_in b.toInt64 0 1000000 = 0 from MOin_no (x := b) (a := 0) (b := 1000000) (Or.inr (Int32.not_le.mp b1)), if_pos rfl]
    exact ⟨_, μ, ν, rfl, rfl, hJ⟩
end POUR
