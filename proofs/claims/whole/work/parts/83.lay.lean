/-! ===== lay ===== -/
section LAYX
variable {μ ν : Mem} {w h : Nat}
theorem MO_under0 {n : Nat} {ν : Mem} (h5 : ν.1 63 5 = nI n) (hn : n ≤ 64) : ∃ a, f_MO_layLakes_L7 FU ν 0 = some a ∧ (∀ g, g < n → a.1 82 g = 0) ∧ (∀ q, q ≠ 81 → q ≠ 82 → a.1 q = ν.1 q) ∧ a.2 = ν.2 := by
  exact lp_0 (fun m a k => f_MO_layLakes_L7 m a (nI k)) (fun k a => (∀ g, g < k → a.1 82 g = 0) ∧ (∀ q, q ≠ 81 → q ≠ 82 → a.1 q = ν.1 q) ∧ a.2 = ν.2) _ n ν (by omega)
    ⟨fun g hg => absurd hg (Nat.not_lt_zero g), fun _ _ _ => rfl, rfl⟩
    (fun m a g => ⟨a, by
      show f_MO_layLakes_L7 (m + 1) a (nI n) = _
      rw [f_MO_layLakes_L7.eq_2, g.2.1 63 (by decide) (by decide), h5, if_pos (Int32.le_refl _)], g⟩)
    (fun m a k hk g => by
      refine ⟨sI (sI a 82 k 0) 81 k (-3), ⟨fun f hf => ?_, fun q e1 e2 => by rw [sI_ne e1, sI_ne e2]; exact g.2.1 q e1 e2, g.2.2⟩, ?_⟩
      · rw [sI_ne (by decide)]
        by_cases e : f = k
        · subst e; rw [sI_at]
        · rw [sI_off e]; exact g.1 f (by omega)
      · show f_MO_layLakes_L7 (m + 1) a (nI k) = f_MO_layLakes_L7 m _ (nI (k + 1))
        rw [f_MO_layLakes_L7.eq_2, g.2.1 63 (by decide) (by decide), h5, if_neg (nI_ge hk (by omega)), nI_1]
        simp only [G_n (show k < 64 by omega) (show 64 < 2147483648 by decide)]
        rw [cl (by omega)]
        rfl)
theorem lay_Hts (hok : ∀ r, r < h → ∀ c, c < w → okc ν r c) (hw : 1 ≤ w) : Hts (w * h) (ldF ν w (w * h)) (htF ν w (w * h)) := by
  intro f hf
  have hf' := hf
  unfold ldF at hf'
  simp only [Bool.and_eq_true, decide_eq_true_eq] at hf'
  have := hok (f / w) (Nat.div_lt_of_lt_mul hf'.1) (f % w) (Nat.mod_lt f (by omega)) hf'.2
  unfold htF
  rw [if_pos hf]
  exact this
theorem lay_laid (hs : StT μ ν) (hw : 1 ≤ w) (hw8 : w ≤ 8) (h1 : 1 ≤ h) (hh : h ≤ 8) (hok : ∀ r, r < h → ∀ c, c < w → okc ν r c) :
    ∃ (r : Int32) (μ' ν' : Mem), ((f_RE_flood μ (nI w) (nI h)).bind fun v2 => (f_LR_lay_L44 (nI w) (nI h) FU v2 0).bind fun v4 => (f_RE_survey v4).bind fun v5 => (f_LK_come v5).bind fun v6 => some (((sI v6 0 3 1).1 18 9), (sI v6 0 3 1))) = some (r, μ') ∧
      ((f_MO_lay_L108 (nI w) FU (sI (sI (sI ν 63 3 1) 63 4 (nI w)) 63 5 (nI w * nI h)) 0 0).bind fun v18 => (f_MO_lay_L204 v18.1 FU v18.2 0).bind fun v22 => (f_MO_lay_L238 v18.1 FU v22 0).bind fun v27 => (f_MO_layFill v27).bind fun v28 => (f_MO_layLakes v28).bind fun v29 => some (v18.1, (sJ (sJ v29 63 20 0) 63 21 0))) = some (r, ν') ∧ JJ μ' ν' := by
  have hz := ldF_sz ν hw hw8 h1 hh
  have hH := lay_Hts hok hw
  have hn : w * h ≤ 64 := hz.2.2.1
  -- the class
  obtain ⟨a1, x1, x2, x3, x4, x5, x6, x7⟩ := RE_flood μ w h
  obtain ⟨a2, y1, y2⟩ := LR_lines (μ := μ) hs hw hw8 hh (a := a1) ⟨x2, x3, x4, fun f => by rw [x5, bit_0]; simp, fun f hf => by rw [x6 f hf, if_neg (Nat.not_lt_zero f)], x7⟩
  have R2 := LnC_ReC hz y2
  obtain ⟨a3, z1, R3, B3, z2, z3⟩ := RE_findNeighbours hz R2
  obtain ⟨a4, m, od, u1, R4, u2, O4, u3, u4⟩ := RE_sortLand hz R3 (by rw [z2 18 (by decide)]; exact y2.2.2.1)
  have B4 : NbC w (w * h) (ldF ν w (w * h)) a4 := fun f hf k hk => by rw [u3 24 (by decide) (by decide)]; exact B3 f hf k hk
  obtain ⟨a5, t1, t2, t3, t4⟩ := RE_findWays hz R4 B4 u2 O4
  have R5 := R4.of (a := a5) (by rw [t3 18 (by decide) (by decide)]) (by rw [t3 18 (by decide) (by decide)]) (by rw [t4]) (t3 19 (by decide) (by decide))
  have B5 : NbC w (w * h) (ldF ν w (w * h)) a5 := fun f hf k hk => by rw [t3 24 (by decide) (by decide)]; exact B4 f hf k hk
  have O5 := O4.of (μ' := a5) (by rw [t3 18 (by decide) (by decide)]) (t3 23 (by decide) (by decide))
  obtain ⟨a6, s1, s2, s3, s4, s5⟩ := RE_findFills hz R5 B5 hH u2 O5
  have R6 := R5.of (a := a6) (by rw [s4 18 (by decide)]) (by rw [s4 18 (by decide)]) (by rw [s5]) (s4 19 (by decide))
  have B6 : NbC w (w * h) (ldF ν w (w * h)) a6 := fun f hf k hk => by rw [s4 24 (by decide)]; exact B5 f hf k hk
  have O6 := O5.of (μ' := a6) (by rw [s4 18 (by decide)]) (s4 23 (by decide))
  have surv : f_RE_survey a2 = some a6 := by
    unfold f_RE_survey
    rw [z1]; simp only [Option.bind_some]
    rw [u1]; simp only [Option.bind_some]
    rw [t1]; simp only [Option.bind_some]
    rw [s1]; simp only [Option.bind_some]
  -- the reference
  obtain ⟨c, c1, p1, p2, M1, p3, p4, p5, p6⟩ := MO_heights hs hw hw8 h1 hh
  obtain ⟨c2, d1, d2, d3, d4⟩ := MO_downs hz M1 c
  have M2 := M1.of (a := c2) (by rw [d3 63 (by decide)]) (by rw [d3 63 (by decide)]) (d3 67 (by decide)) (d3 68 (by decide))
  have edn : ∀ f, ldF ν w (w * h) f = true → a5.1 20 f = c2.1 69 f := fun f hf => Dn_one (t2 f hf).1 (d2 f hf)
  obtain ⟨c3, e1, e2, e3, e4⟩ := MO_ends hz M2 c d2 (we := a5.1 21) (fun f hf => by
    obtain ⟨q1, q2, q3⟩ := (t2 f hf).2
    rw [edn f hf] at q1 q2 q3
    exact ⟨q1, q2, q3⟩)
  have M3 := M2.of (a := c3) (by rw [e3 63 (by decide)]) (by rw [e3 63 (by decide)]) (e3 67 (by decide)) (e3 68 (by decide))
  obtain ⟨c4, f1, f2, f3, f4, f5⟩ := MO_layFill hz M3 hH
  have M4 := M3.of (a := c4) (by rw [f4 63 (by decide)]) (by rw [f4 63 (by decide)]) (f4 67 (by decide)) (f4 68 (by decide))
  have efi := fill_one hz hH s2 s3 f2 f3
  -- the lakes
  obtain ⟨c5, g1, g2, g3, g4⟩ := MO_under0 (ν := sI c4 63 11 0) (n := w * h) (by rw [sI_off (by decide)]; exact M4.2.1) hn
  have M5 := M4.of (a := c5) (by rw [g3 63 (by decide) (by decide), sI_off (by decide)]) (by rw [g3 63 (by decide) (by decide), sI_off (by decide)]) (by rw [g3 67 (by decide) (by decide), sI_ne (by decide)]) (by rw [g3 68 (by decide) (by decide), sI_ne (by decide)])
  have ek : ∀ q, q ≠ 26 → (sJ (sJ (sJ (sI a6 26 1 0) 26 2 0) 26 3 0) 26 5 0).1 q = a6.1 q := fun q hq => by rw [sJ_1, sJ_1, sJ_1, sI_ne hq]
  have ek2 : ∀ q, q ≠ 26 → (sJ (sJ (sJ (sI a6 26 1 0) 26 2 0) 26 3 0) 26 5 0).2 q = a6.2 q := fun q hq => by rw [sJ_ne hq, sJ_ne hq, sJ_ne hq, sI_2]
  have R7 := R6.of (a := sJ (sJ (sJ (sI a6 26 1 0) 26 2 0) 26 3 0) 26 5 0) (by rw [ek 18 (by decide)]) (by rw [ek 18 (by decide)]) (by rw [ek2 18 (by decide)]) (ek 19 (by decide))
  have B7 : NbC w (w * h) (ldF ν w (w * h)) (sJ (sJ (sJ (sI a6 26 1 0) 26 2 0) 26 3 0) 26 5 0) := fun f hf k hk => by rw [ek 24 (by decide)]; exact B6 f hf k hk
  have O7 := O6.of (μ' := sJ (sJ (sJ (sI a6 26 1 0) 26 2 0) 26 3 0) 26 5 0) (by rw [ek 18 (by decide)]) (ek 23 (by decide))
  obtain ⟨b, b', σ, k1, k2, k3, k4, k5, k6, k7, k8, k9, hx, k10⟩ := lock_end (dn := a5.1 20) hz R7 B7 u2 O7 M5 (fun f hf => (t2 f hf).1)
    ⟨by rw [sJ_1, sJ_1, sJ_1, sI_at]; rfl, fun g => by rw [sJ_at, bit_0]; rfl, fun l hl => absurd hl (Nat.not_lt_zero l)⟩
    ⟨by rw [g3 63 (by decide) (by decide), sI_at]; rfl, fun l hl => absurd hl (Nat.not_lt_zero l), fun g hg => by rw [g2 g hg]; rfl, fun g _ hu => by cases hu⟩
  have R8 := k7.ReC R7
  obtain ⟨v, v1, v2, v3, v4⟩ := LK_measures hz k5 R8 k3 k6
  obtain ⟨v', i1, i2, i3, i4⟩ := MO_theres k4 k6
  have come : f_LK_come a6 = some v := by
    unfold f_LK_come
    rw [k1]; simp only [Option.bind_some]
    rw [v1]; simp only [Option.bind_some]
  have lakes : f_MO_layLakes c4 = some v' := by
    unfold f_MO_layLakes
    rw [g1]; simp only [Option.bind_some]
    rw [k2]; simp only [Option.bind_some]
    rw [i1]; simp only [Option.bind_some]
  -- what is where
  have F1 : ∀ q, q < 26 → v.1 q = a6.1 q := fun q hq => by rw [v3 q (by omega), k7.1 q hq, ek q (by omega)]
  have F2 : v.2 18 = a6.2 18 := by rw [v4, k7.2.1 18 (by decide), ek2 18 (by decide)]
  have F3 : ∀ q, q < 72 → q ≠ 63 → v'.1 q = c4.1 q := fun q hq h63 => by rw [i3 q (by omega), k8.1 q hq h63, g3 q (by omega) (by omega), sI_ne h63]
  have F4 : ∀ j, j < 11 → v'.1 63 j = c4.1 63 j := fun j hj => by rw [i3 63 (by decide), k8.2.1 j hj, g3 63 (by decide) (by decide), sI_off (by omega)]
  have F5 : c4.1 63 = c1.1 63 := by rw [f4 63 (by decide), e3 63 (by decide), d3 63 (by decide)]
  have F6 : ∀ q, q < 67 → q ≠ 63 → v'.1 q = ν.1 q := fun q hq h63 => by rw [F3 q (by omega) h63, f4 q (by omega), e3 q (by omega), d3 q (by omega), p4 q h63 (by omega) (by omega)]
  have F7 : ∀ q, q < 18 → v.1 q = μ.1 q := fun q hq => by rw [F1 q (by omega), s4 q (by omega), t3 q (by omega) (by omega), u3 q (by omega) (by omega), z2 q (by omega), y2.2.2.2.2.2 q hq]
  refine ⟨(sI v 0 3 1).1 18 9, sI v 0 3 1, sJ (sJ v' 63 20 0) 63 21 0, ?_, ?_, ?_, Or.inr ⟨?_, ?_, ?_⟩⟩
  · rw [x1]; simp only [Option.bind_some]
    rw [y1]; simp only [Option.bind_some]
    rw [surv]; simp only [Option.bind_some]
    rw [come]; simp only [Option.bind_some]
  · rw [p1]; simp only [Option.bind_some]
    rw [d1]; simp only [Option.bind_some]
    rw [e1]; simp only [Option.bind_some]
    rw [f1]; simp only [Option.bind_some]
    rw [lakes]; simp only [Option.bind_some]
    rw [sI_ne (by decide), F1 18 (by decide), O6.1, p2, OrC_ct O6 hz.2.2.2.2]
  · intro r hr
    rw [sI_ne (by omega), sI_ne (by omega), F7 (2 + r) (by omega), F7 (10 + r) (by omega), sJ_1, sJ_1, F6 64 (by decide) (by decide), F6 65 (by decide) (by decide), F6 66 (by decide) (by decide)]
    exact hs r hr
  · rw [sI_at]
  · rw [sJ_1, sJ_1, F4 3 (by decide), F5]; exact p3
  · have R9 := R6.of (a := sI v 0 3 1) (by rw [sI_ne (by decide), F1 18 (by decide)]) (by rw [sI_ne (by decide), F1 18 (by decide)]) (by rw [sI_2, F2]) (by rw [sI_ne (by decide), F1 19 (by decide)])
    have M9 := M4.of (a := sJ (sJ v' 63 20 0) 63 21 0) (by rw [sJ_1, sJ_1, F4 4 (by decide)]) (by rw [sJ_1, sJ_1, F4 5 (by decide)]) (by rw [sJ_1, sJ_1, F3 67 (by decide) (by decide)]) (by rw [sJ_1, sJ_1, F3 68 (by decide) (by decide)])
    refine ⟨w, w * h, m, ldF ν w (w * h), htF ν w (w * h), od, a5.1 20, a5.1 21, σ, fun l => decide (qA σ l = -3), fun _ => 0, ⟨hz, hH, u2, R9, ?_, ?_, M9, t2, ?_, ?_⟩, ⟨k5, k6, hx, k10⟩, ?_, ?_, WatI_0 hz hH k5 k9, ?_, ?_⟩
    · intro f hf k hk
      rw [sI_ne (by decide), F1 24 (by decide)]
      exact B6 f hf k hk
    · exact O6.of (by rw [sI_ne (by decide), F1 18 (by decide)]) (by rw [sI_ne (by decide), F1 23 (by decide)])
    · intro f hf
      rw [sI_ne (by decide), sI_ne (by decide), sI_ne (by decide), F1 20 (by decide), F1 21 (by decide), F1 22 (by decide), s4 20 (by decide), s4 21 (by decide), sJ_1, sJ_1, F3 69 (by decide) (by decide), F3 71 (by decide) (by decide), f4 69 (by decide), e3 69 (by decide)]
      exact ⟨rfl, rfl, (edn f hf).symm, (fa_eq _ _).mpr (efi f hf)⟩
    · intro f hf
      rw [sJ_1, sJ_1, F3 70 (by decide) (by decide), f4 70 (by decide)]
      exact e2 f hf
    · exact v2.of k6 (fun q q1 _ => sI_ne (by omega)) (fun _ _ _ => rfl)
    · exact i2.of rfl (fun _ _ _ => rfl) (by rw [sJ_ne (by decide), sJ_ne (by decide)])
    · rw [sI_2, v4, k7.2.2.1, sJ_off (by decide), sJ_off (by decide), sJ_at, sJ_off (by decide), sJ_at]
    · rw [sI_2, v4, k7.2.2.2, sJ_off (by decide), sJ_at, sJ_at]
theorem j_lay (a b : Int32) (hJ : JJ μ ν) : ∃ (r : Int32) (μ' ν' : Mem), f_LR_lay μ a b = some (r, μ') ∧ f_MO_lay ν a b = some (r, ν') ∧ JJ μ' ν' := by
  have e1 : (1 : Int32).toInt = 1 := rfl
  have e8 : (8 : Int32).toInt = 8 := rfl
  have bad : ∀ x : Int32, (x < 1 ∨ 8 < x) → f_MO_in x.toInt64 1 8 = 0 := fun x hx => MOin_no (x := x) (a := 1) (b := 8) hx
  unfold f_LR_lay f_MO_lay
  by_cases q1 : a < 1
  · rw [if_pos q1, bad a (Or.inl q1), if_pos rfl]
    exact ⟨-1, μ, ν, rfl, rfl, hJ⟩
  rw [if_neg q1]
  by_cases q2 : 8 < a
  · rw [if_pos q2, bad a (Or.inr q2), if_pos rfl]
    exact ⟨-1, μ, ν, rfl, rfl, hJ⟩
  rw [if_neg q2, show f_MO_in a.toInt64 1 8 = 1 from MOin_yes (x := a) (a := 1) (b := 8) (Int32.not_lt.mp q1) (Int32.not_lt.mp q2), if_neg (by decide : ¬ (1 : Int32) = 0)]
  by_cases q3 : b < 1
  · rw [if_pos q3, bad b (Or.inl q3), if_pos rfl]
    exact ⟨-1, μ, ν, rfl, rfl, hJ⟩
  rw [if_neg q3]
  by_cases q4 : 8 < b
  · rw [if_pos q4, bad b (Or.inr q4), if_pos rfl]
    exact ⟨-1, μ, ν, rfl, rfl, hJ⟩
  rw [if_neg q4, show f_MO_in b.toInt64 1 8 = 1 from MOin_yes (x := b) (a := 1) (b := 8) (Int32.not_lt.mp q3) (Int32.not_lt.mp q4), if_neg (by decide : ¬ (1 : Int32) = 0)]
  rw [fa_lt, e1] at q1 q3
  rw [fa_lt, e8] at q2 q4
  obtain ⟨w, rfl, hw, -⟩ := ge_nI (x := a) (by omega)
  obtain ⟨h, rfl, hh, -⟩ := ge_nI (x := b) (by omega)
  rcases LR_canBeLaid (μ := μ) (ν := ν) hJ.1 (w := w) (h := h) (by omega) (by omega) with ⟨o1, o2⟩ | ⟨o1, o2⟩
  · rw [o2, layM_look hJ.1 (by omega) (by omega) _ o1]
    simp only [Option.bind_some]
    rw [if_neg (by decide : ¬ (1 : Int32) = 0)]
    exact lay_laid hJ.1 (by omega) (by omega) (by omega) (by omega) o1
  · rw [o2, layM_lookBad hJ.1 (by omega) (by omega) _ o1]
    simp only [Option.bind_some]
    exact ⟨-1, μ, ν, rfl, rfl, hJ⟩
end LAYX
