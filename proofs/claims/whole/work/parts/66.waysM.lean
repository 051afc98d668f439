/-! ===== the reference's heights and ways ===== -/
section LAYM
variable {μ ν : Mem} {w h : Nat}
theorem MO_heights (hs : StT μ ν) (hw : 1 ≤ w) (hw8 : w ≤ 8) (h1 : 1 ≤ h) (hh : h ≤ 8) : ∃ (c : Int32) (a : Mem), f_MO_lay_L108 (nI w) FU (sI (sI (sI ν 63 3 1) 63 4 (nI w)) 63 5 (nI w * nI h)) 0 0 = some (c, a) ∧ c = nI (fb_ct (ldF ν w (w * h)) (w * h)) ∧ ReM w (w * h) (ldF ν w (w * h)) (htF ν w (w * h)) a ∧ a.1 63 3 = 1 ∧ (∀ q, q ≠ 63 → q ≠ 67 → q ≠ 68 → a.1 q = ν.1 q) ∧ (∀ k, k ≠ 3 → k ≠ 4 → k ≠ 5 → a.1 63 k = ν.1 63 k) ∧ a.2 = ν.2 := by
  have h64 : w * h ≤ 64 := Nat.le_trans (Nat.mul_le_mul hw8 hh) (by decide)
  obtain ⟨v, g1, g2⟩ := lp_0 (fun m (a : Int32 × Mem) k => f_MO_lay_L108 (nI w) m a.2 a.1 (nI k)) (fun k a => a.1 = nI (fb_ct (ldF ν w (w * h)) k) ∧ a.2.1 63 3 = 1 ∧ a.2.1 63 4 = nI w ∧ a.2.1 63 5 = nI (w * h) ∧ (∀ f, f < k → a.2.1 67 f = (if ldF ν w (w * h) f = true then 0 else 1) ∧ a.2.1 68 f = htF ν w (w * h) f) ∧ (∀ q, q ≠ 63 → q ≠ 67 → q ≠ 68 → a.2.1 q = ν.1 q) ∧ (∀ k, k ≠ 3 → k ≠ 4 → k ≠ 5 → a.2.1 63 k = ν.1 63 k) ∧ a.2.2 = ν.2)
    (fun v => v.1 = nI (fb_ct (ldF ν w (w * h)) (w * h)) ∧ v.2.1 63 3 = 1 ∧ v.2.1 63 4 = nI w ∧ v.2.1 63 5 = nI (w * h) ∧ (∀ f, f < w * h → v.2.1 67 f = (if ldF ν w (w * h) f = true then 0 else 1) ∧ v.2.1 68 f = htF ν w (w * h) f) ∧ (∀ q, q ≠ 63 → q ≠ 67 → q ≠ 68 → v.2.1 q = ν.1 q) ∧ (∀ k, k ≠ 3 → k ≠ 4 → k ≠ 5 → v.2.1 63 k = ν.1 63 k) ∧ v.2.2 = ν.2) (w * h) (0, sI (sI (sI ν 63 3 1) 63 4 (nI w)) 63 5 (nI w * nI h)) (by omega)
    ⟨rfl, by rw [sI_off (by decide), sI_off (by decide), sI_at], by rw [sI_off (by decide), sI_at], by rw [sI_at, pk_mul], fun f hf => absurd hf (Nat.not_lt_zero f), fun q e1 _ _ => by rw [sI_ne e1, sI_ne e1, sI_ne e1], fun k e1 e2 e3 => by rw [sI_off e3, sI_off e2, sI_off e1], rfl⟩
    (fun m a g => ⟨(a.1, a.2), by
      show f_MO_lay_L108 (nI w) (m + 1) a.2 a.1 (nI (w * h)) = _
      rw [f_MO_lay_L108.eq_2, g.2.2.2.1, if_pos (Int32.le_refl _)], g⟩)
    (fun m a k hk g => by
      obtain ⟨c, b⟩ := a
      obtain ⟨g1, g3, g4, g5, g6, g7, g9, g8⟩ := g
      dsimp only at g1 g3 g4 g5 g6 g7 g8 g9
      have hr8 : k / w < 8 := Nat.lt_of_lt_of_le (Nat.div_lt_of_lt_mul hk) hh
      have hsb : ∀ b' : Mem, (∀ q, q ≠ 63 → q ≠ 67 → q ≠ 68 → b'.1 q = ν.1 q) → StT μ b' := by
        intro b' e r hr
        rw [e 64 (by decide) (by decide) (by decide), e 65 (by decide) (by decide) (by decide), e 66 (by decide) (by decide) (by decide)]
        exact hs r hr
      have hln : ∀ b' : Mem, (∀ q, q ≠ 63 → q ≠ 67 → q ≠ 68 → b'.1 q = ν.1 q) → ∀ r, ln b' r = ln ν r := by
        intro b' e r
        unfold ln
        rw [e 65 (by decide) (by decide) (by decide)]
      have hkm : k % w < w := Nat.mod_lt k (by omega)
      have hw0 : ¬ nI w = 0 := nI_ne0 (by omega) (by omega)
      have hl12 := (ln_of hs hr8).2.2
      have eld : ldF ν w (w * h) k = decide (k % w < ln ν (k / w)) := by unfold ldF; simp [hk]
      show ∃ a' : Int32 × Mem, _ ∧ f_MO_lay_L108 (nI w) (m + 1) b c (nI k) = f_MO_lay_L108 (nI w) m a'.2 a'.1 (nI (k + 1))
      rw [f_MO_lay_L108.eq_2, g5, if_neg (nI_ge hk (by omega))]
      unfold Zg
      simp only [if_neg hw0]
      rw [pk_rem (by omega) (by omega) (by omega), pk_div (by omega) (by omega) (by omega), MO_place (hsb b g7) hr8 _ (by omega), hln b g7, nI_1]
      simp only [Option.bind_some, G_n (show k < 64 by omega) (show 64 < 2147483648 by decide)]
      rw [cl (by omega)]
      by_cases q : k % w < ln ν (k / w)
      · rw [if_pos q, if_neg (by decide)]
        simp only [Option.bind_some]
        rw [sI_at, if_pos (by decide), MO_stripAt hr8 (by omega), sI_ne (by decide), g7 66 (by decide) (by decide) (by decide)]
        simp only [Option.bind_some]
        rw [sI_ne (by decide), sI_at, if_pos (by decide)]
        simp only [Option.bind_some]
        refine ⟨(c + 1, sI (sI b 67 k (0 &&& 1)) 68 k (ν.1 66 (12 * (k / w) + k % w))), ?_, rfl⟩
        dsimp only
        refine ⟨?_, ?_, ?_, ?_, ?_, ?_, ?_, ?_⟩
        · rw [g1, fb_ct_succ, eld, if_pos (by simp [q]), nI_1]
        · rw [sI_ne (by decide), sI_ne (by decide)]; exact g3
        · rw [sI_ne (by decide), sI_ne (by decide)]; exact g4
        · rw [sI_ne (by decide), sI_ne (by decide)]; exact g5
        · intro f hf
          by_cases e : f = k
          · subst e
            rw [sI_ne (by decide), sI_at, sI_at]
            unfold htF
            rw [eld, if_pos (by simp [q]), if_pos (by simp [q])]
            exact ⟨rfl, rfl⟩
          · rw [sI_ne (by decide), sI_off e, sI_off e, sI_ne (by decide)]
            exact g6 f (by omega)
        · intro q2 e1 e2 e3
          rw [sI_ne e3, sI_ne e2]
          exact g7 q2 e1 e2 e3
        · intro k2 e1 e2 e3
          rw [sI_ne (by decide), sI_ne (by decide)]
          exact g9 k2 e1 e2 e3
        · exact g8
      · rw [if_neg q, if_pos rfl]
        simp only [Option.bind_some]
        rw [sI_at, if_neg (by decide)]
        simp only [Option.bind_some]
        rw [sI_ne (by decide), sI_at, if_neg (by decide)]
        simp only [Option.bind_some]
        refine ⟨(c + 0, sI (sI b 67 k (1 &&& 1)) 68 k 0), ?_, rfl⟩
        dsimp only
        refine ⟨?_, ?_, ?_, ?_, ?_, ?_, ?_, ?_⟩
        · rw [g1, fb_ct_succ, eld, if_neg (by simp [q]), Nat.add_zero]
          exact Int32.add_zero _
        · rw [sI_ne (by decide), sI_ne (by decide)]; exact g3
        · rw [sI_ne (by decide), sI_ne (by decide)]; exact g4
        · rw [sI_ne (by decide), sI_ne (by decide)]; exact g5
        · intro f hf
          by_cases e : f = k
          · subst e
            rw [sI_ne (by decide), sI_at, sI_at]
            unfold htF
            rw [eld, if_neg (by simp [q]), if_neg (by simp [q])]
            exact ⟨rfl, rfl⟩
          · rw [sI_ne (by decide), sI_off e, sI_off e, sI_ne (by decide)]
            exact g6 f (by omega)
        · intro q2 e1 e2 e3
          rw [sI_ne e3, sI_ne e2]
          exact g7 q2 e1 e2 e3
        · intro k2 e1 e2 e3
          rw [sI_ne (by decide), sI_ne (by decide)]
          exact g9 k2 e1 e2 e3
        · exact g8)
  obtain ⟨c, a⟩ := v
  obtain ⟨g3, g4, g5, g6, g7, g8, g10, g9⟩ := g2
  exact ⟨c, a, g1, g3, ⟨g5, g6, fun f hf => (g7 f hf).1, fun f hf => (g7 f hf).2⟩, g4, g8, g10, g9⟩
end LAYM
section WAYSM
variable {w n : Nat} {ld : Nat → Bool} {ht : Nat → Int32} {ν : Mem}
theorem ReM.of {a : Mem} (h : ReM w n ld ht ν) (e1 : a.1 63 4 = ν.1 63 4) (e2 : a.1 63 5 = ν.1 63 5) (e3 : a.1 67 = ν.1 67) (e4 : a.1 68 = ν.1 68) : ReM w n ld ht a := by
  refine ⟨by rw [e1]; exact h.1, by rw [e2]; exact h.2.1, fun f hf => by rw [e3]; exact h.2.2.1 f hf, fun f hf => by rw [e4]; exact h.2.2.2 f hf⟩
theorem MO_layDown (hz : Sz w n ld) (h : ReM w n ld ht ν) {f : Nat} (hf : f < n) : ∃ d, f_MO_layDown ν (nI f) = some (sI ν 69 f d) ∧ Dn ht (nbr w n ld f) f d := by
  have hn := hz.2.2.1
  unfold f_MO_layDown
  -- low: the lowest of f and what was seen; sea: whether a sea was seen
  obtain ⟨v, h1, low, h2, h3, h4, h5, h6⟩ := lp_0 (fun m (a : Int32 × Int32) k => f_MO_layDown_L7 ν (nI f) m a.1 a.2 (nI k)) (fun k a => ∃ low, a.1 = nI low ∧ low < n ∧ (low = f ∨ ((∃ j, j < k ∧ nbr w n ld f j = some low) ∧ lw ht low f = true)) ∧ (∀ j, j < k → ∀ g, nbr w n ld f j = some g → g = low ∨ lw ht low g = true) ∧ ((a.2 = 1 ∧ ∃ j, j < k ∧ nbr w n ld f j = none) ∨ (a.2 = 0 ∧ ∀ j, j < k → nbr w n ld f j ≠ none)))
    (fun v => ∃ low, v.1 = nI low ∧ low < n ∧ (low = f ∨ ((∃ j, j < 4 ∧ nbr w n ld f j = some low) ∧ lw ht low f = true)) ∧ (∀ j, j < 4 → ∀ g, nbr w n ld f j = some g → g = low ∨ lw ht low g = true) ∧ ((v.2 = 1 ∧ ∃ j, j < 4 ∧ nbr w n ld f j = none) ∨ (v.2 = 0 ∧ ∀ j, j < 4 → nbr w n ld f j ≠ none))) 4 (nI f, 0) (by decide)
    ⟨f, rfl, hf, Or.inl rfl, fun j hj => absurd hj (Nat.not_lt_zero j), Or.inr ⟨rfl, fun j hj => absurd hj (Nat.not_lt_zero j)⟩⟩
    (fun m a g => ⟨(a.1, a.2), by show f_MO_layDown_L7 ν (nI f) (m + 1) a.1 a.2 (nI 4) = _; rw [f_MO_layDown_L7.eq_2, if_pos (by decide)], g⟩)
    (fun m a k hk g => by
      obtain ⟨x, y⟩ := a
      obtain ⟨low, g1, g2, g3, g4, g5⟩ := g
      dsimp only at g1 g5
      subst g1
      obtain ⟨v, s1, s2⟩ := MO_side hz h hf hk
      show ∃ a' : Int32 × Int32, _ ∧ f_MO_layDown_L7 ν (nI f) (m + 1) (nI low) y (nI k) = f_MO_layDown_L7 ν (nI f) m a'.1 a'.2 (nI (k + 1))
      rw [f_MO_layDown_L7.eq_2, if_neg (nge 4 (b := 4) rfl hk (by decide)), s1, nI_1]
      simp only [Option.bind_some]
      have wet : f_MO_isWet ν v = some 1 → nbr w n ld f k = none → ∃ a' : Int32 × Int32, (∃ low, a'.1 = nI low ∧ low < n ∧ (low = f ∨ ((∃ j, j < k + 1 ∧ nbr w n ld f j = some low) ∧ lw ht low f = true)) ∧ (∀ j, j < k + 1 → ∀ g, nbr w n ld f j = some g → g = low ∨ lw ht low g = true) ∧ ((a'.2 = 1 ∧ ∃ j, j < k + 1 ∧ nbr w n ld f j = none) ∨ (a'.2 = 0 ∧ ∀ j, j < k + 1 → nbr w n ld f j ≠ none))) ∧ ((if y = 0 then (f_MO_isWet ν v).bind fun v3 => if v3 = 0 then some 0 else some 1 else some 1).bind fun v2 => (f_MO_isWet ν v).bind fun v4 => (if v4 = 0 then (f_MO_isLower ν v (nI low)).bind fun v6 => if v6 = 0 then some (nI low) else some v else some (nI low)).bind fun v5 => f_MO_layDown_L7 ν (nI f) m v5 v2 (nI (k + 1))) = f_MO_layDown_L7 ν (nI f) m a'.1 a'.2 (nI (k + 1)) := by
        intro e1 e2
        refine ⟨(nI low, 1), ⟨low, rfl, g2, ?_, ?_, Or.inl ⟨rfl, k, by omega, e2⟩⟩, ?_⟩
        · rcases g3 with q | ⟨⟨j, j1, j2⟩, q⟩
          · exact Or.inl q
          · exact Or.inr ⟨⟨j, by omega, j2⟩, q⟩
        · intro j hj g hg
          by_cases e : j = k
          · subst e; rw [e2] at hg; cases hg
          · exact g4 j (by omega) g hg
        · rw [e1]
          rcases g5 with ⟨q, -⟩ | ⟨q, -⟩
          · rw [q]; rfl
          · rw [q]; rfl
      rcases s2 with ⟨-, e2, e1⟩ | ⟨g, -, -, -, e2, e1⟩ | ⟨g, b1, b2, b3, b4, b5⟩
      · exact wet e1 e2
      · exact wet e1 e2
      · rw [b5]
        have hsea : (if y = 0 then (some (0 : Int32)).bind fun v3 => if v3 = 0 then some (0 : Int32) else some 1 else some 1) = some y := by
          rcases g5 with ⟨q, -⟩ | ⟨q, -⟩ <;> rw [q] <;> rfl
        rw [hsea]
        simp only [Option.bind_some]
        rw [if_pos trivial, b2, MO_isLower hn h b1 g2]
        simp only [Option.bind_some]
        have h5' : (y = 1 ∧ ∃ j, j < k + 1 ∧ nbr w n ld f j = none) ∨ (y = 0 ∧ ∀ j, j < k + 1 → nbr w n ld f j ≠ none) := by
          rcases g5 with ⟨q, j, j1, j2⟩ | ⟨q, q2⟩
          · exact Or.inl ⟨q, j, by omega, j2⟩
          · refine Or.inr ⟨q, fun j hj => ?_⟩
            by_cases e : j = k
            · subst e; rw [b4]; simp
            · exact q2 j (by omega)
        by_cases c : lw ht g low = true
        · rw [if_pos c, if_neg (by decide)]
          refine ⟨(nI g, y), ⟨g, rfl, b1, Or.inr ⟨⟨k, by omega, b4⟩, ?_⟩, fun j hj x hx => ?_, h5'⟩, rfl⟩
          · rcases g3 with q | ⟨-, q⟩
            · rw [q] at c; exact c
            · exact lw_tr c q
          · by_cases e : j = k
            · subst e; rw [b4] at hx; cases hx; exact Or.inl rfl
            · rcases g4 j (by omega) x hx with q | q
              · rw [q]; exact Or.inr c
              · exact Or.inr (lw_tr c q)
        · rw [if_neg c, if_pos rfl]
          refine ⟨(nI low, y), ⟨low, rfl, g2, ?_, fun j hj x hx => ?_, h5'⟩, rfl⟩
          · rcases g3 with q | ⟨⟨j, j1, j2⟩, q⟩
            · exact Or.inl q
            · exact Or.inr ⟨⟨j, by omega, j2⟩, q⟩
          · by_cases e : j = k
            · subst e
              rw [b4] at hx
              cases hx
              by_cases e2 : g = low
              · exact Or.inl e2
              · exact Or.inr ((lw_tot e2).resolve_left c)
            · exact g4 j (by omega) x hx)
  rw [show f_MO_layDown_L7 ν (nI f) FU (nI f) 0 0 = some v from h1]
  simp only [Option.bind_some]
  simp only [G_n (show f < 64 by omega) (show 64 < 2147483648 by decide)]
  rw [h2, cl (by omega)]
  rcases h6 with ⟨q, s⟩ | ⟨q, s⟩
  · rw [q, if_neg (by decide)]
    exact ⟨-5, rfl, Or.inl ⟨rfl, s⟩⟩
  · rw [q, if_pos rfl]
    have nb : ¬ bsea (nbr w n ld f) := fun ⟨j, j1, j2⟩ => s j j1 j2
    by_cases e : low = f
    · rw [if_pos (by rw [e])]
      refine ⟨-3, rfl, Or.inr ⟨nb, Or.inl ⟨rfl, fun k hk g hg => ?_⟩⟩⟩
      rcases h5 k hk g hg with q2 | q2
      · exact absurd (q2.trans e) (nbr_ne hz hf hg).1
      · rw [e] at q2; exact q2
    · rw [if_neg (fun q2 => e (nI_inj (by omega) (by omega) q2))]
      rcases h4 with q2 | ⟨q2, q3⟩
      · exact absurd q2 e
      · exact ⟨nI low, rfl, Or.inr ⟨nb, Or.inr ⟨low, rfl, q2, q3, h5⟩⟩⟩
theorem MO_downs (hz : Sz w n ld) (h : ReM w n ld ht ν) (y : Int32) : ∃ a, f_MO_lay_L204 y FU ν 0 = some a ∧ (∀ f, ld f = true → Dn ht (nbr w n ld f) f (a.1 69 f)) ∧ (∀ q, q ≠ 69 → a.1 q = ν.1 q) ∧ a.2 = ν.2 := by
  have hn := hz.2.2.1
  obtain ⟨v, h1, h2, h3, h4⟩ := lp_0 (fun m a k => f_MO_lay_L204 y m a (nI k)) (fun k a => (∀ f, f < k → ld f = true → Dn ht (nbr w n ld f) f (a.1 69 f)) ∧ (∀ q, q ≠ 69 → a.1 q = ν.1 q) ∧ a.2 = ν.2) (fun a => (∀ f, f < n → ld f = true → Dn ht (nbr w n ld f) f (a.1 69 f)) ∧ (∀ q, q ≠ 69 → a.1 q = ν.1 q) ∧ a.2 = ν.2) n ν (by omega)
    ⟨fun f hf => absurd hf (Nat.not_lt_zero f), fun _ _ => rfl, rfl⟩
    (fun m a g => ⟨a, by
      show f_MO_lay_L204 y (m + 1) a (nI n) = _
      rw [f_MO_lay_L204.eq_2, g.2.1 63 (by decide), h.2.1, if_pos (Int32.le_refl _)], g⟩)
    (fun m a k hk g => by
      obtain ⟨g1, g2, g3⟩ := g
      have ra : ReM w n ld ht a := h.of (by rw [g2 63 (by decide)]) (by rw [g2 63 (by decide)]) (g2 67 (by decide)) (g2 68 (by decide))
      show ∃ a', _ ∧ f_MO_lay_L204 y (m + 1) a (nI k) = f_MO_lay_L204 y m a' (nI (k + 1))
      rw [f_MO_lay_L204.eq_2, ra.2.1, if_neg (nI_ge hk (by omega)), G_n (by omega) (by decide), cl (by omega), ra.2.2.1 k hk, nI_1]
      by_cases c : ld k = true
      · rw [if_pos c, if_pos rfl]
        obtain ⟨d, p1, p2⟩ := MO_layDown hz ra hk
        rw [p1]
        refine ⟨sI a 69 k d, ⟨fun f hf hl => ?_, fun q hq => by rw [sI_ne hq]; exact g2 q hq, g3⟩, rfl⟩
        by_cases e : f = k
        · subst e; rw [sI_at]; exact p2
        · rw [sI_off e]; exact g1 f (by omega) hl
      · rw [if_neg c, if_neg (by decide)]
        refine ⟨a, ⟨fun f hf hl => ?_, g2, g3⟩, rfl⟩
        by_cases e : f = k
        · subst e; exact absurd hl c
        · exact g1 f (by omega) hl)
  exact ⟨v, h1, fun f hf => h2 f (hz.2.2.2.2 f hf) hf, h3, h4⟩
/-- the end of a way, followed -/
theorem MO_endOf (hz : Sz w n ld) (hd : ∀ f, ld f = true → Dn ht (nbr w n ld f) f (ν.1 69 f)) {we : Nat → Int32} (hw : ∀ f, ld f = true → WE n (ν.1 69) we f) {f : Nat} (hf : ld f = true) : f_MO_endOf ν (nI f) = some (we f) := by
  have hn := hz.2.2.1
  have key : ∀ f, ld f = true → ∀ fuel, rank n ld ht f < fuel → ∃ z, f_MO_endOf_L2 ν fuel (nI f) = some (nI z) ∧ z < n ∧ (ν.1 69 z = -5 → we f = -5) ∧ (¬ ν.1 69 z = -5 → we f = nI z) := by
    refine lw_ind hz.2.2.2.2 (ht := ht) (fun f hf ih fuel hfu => ?_)
    have hfn := hz.2.2.2.2 f hf
    obtain ⟨fuel, rfl⟩ : ∃ x, fuel = x + 1 := ⟨fuel - 1, by omega⟩
    rw [f_MO_endOf_L2.eq_2, if_neg (nI_pos (by omega))]
    simp only [G_n (show f < 64 by omega) (show 64 < 2147483648 by decide)]
    rw [cl (by omega)]
    obtain ⟨w1, w2, w3⟩ := hw f hf
    rcases Dn_cases hz hfn (hd f hf) with e | e | ⟨a, a1, a2, a3, a4⟩
    · rw [if_pos (by rw [e]; decide)]
      exact ⟨f, rfl, hfn, fun _ => w2 e, fun q => absurd e q⟩
    · rw [if_pos (by rw [e]; decide)]
      exact ⟨f, rfl, hfn, fun q => by rw [e] at q; exact absurd q (by decide), fun _ => w1 e⟩
    · rw [a3, if_neg (nI_pos (by omega)), w3 a a1 a3]
      exact ih a a2 a4 fuel (by have := rank_lt a1 a2 a4; omega)
  obtain ⟨z, h1, h2, h3, h4⟩ := key f hf FU (by have := fb_ct_le (fun g => ld g && lw ht g f) n; unfold rank FU; omega)
  unfold f_MO_endOf
  rw [h1]
  simp only [Option.bind_some]
  rw [G_n (by omega) (by decide), cl (by omega)]
  by_cases c : ν.1 69 z = -5
  · rw [if_pos c, h3 c]
  · rw [if_neg c, h4 c]
theorem MO_ends (hz : Sz w n ld) (h : ReM w n ld ht ν) (y : Int32) (hd : ∀ f, ld f = true → Dn ht (nbr w n ld f) f (ν.1 69 f)) {we : Nat → Int32} (hw : ∀ f, ld f = true → WE n (ν.1 69) we f) : ∃ a, f_MO_lay_L238 y FU ν 0 = some a ∧ (∀ f, f < n → a.1 70 f = if ld f = true then we f else -5) ∧ (∀ q, q ≠ 70 → a.1 q = ν.1 q) ∧ a.2 = ν.2 := by
  have hn := hz.2.2.1
  exact lp_0 (fun m a k => f_MO_lay_L238 y m a (nI k)) (fun k a => (∀ f, f < k → a.1 70 f = if ld f = true then we f else -5) ∧ (∀ q, q ≠ 70 → a.1 q = ν.1 q) ∧ a.2 = ν.2) (fun a => (∀ f, f < n → a.1 70 f = if ld f = true then we f else -5) ∧ (∀ q, q ≠ 70 → a.1 q = ν.1 q) ∧ a.2 = ν.2) n ν (by omega)
    ⟨fun f hf => absurd hf (Nat.not_lt_zero f), fun _ _ => rfl, rfl⟩
    (fun m a g => ⟨a, by
      show f_MO_lay_L238 y (m + 1) a (nI n) = _
      rw [f_MO_lay_L238.eq_2, g.2.1 63 (by decide), h.2.1, if_pos (Int32.le_refl _)], g⟩)
    (fun m a k hk g => by
      obtain ⟨g1, g2, g3⟩ := g
      have ra : ReM w n ld ht a := h.of (by rw [g2 63 (by decide)]) (by rw [g2 63 (by decide)]) (g2 67 (by decide)) (g2 68 (by decide))
      show ∃ a', _ ∧ f_MO_lay_L238 y (m + 1) a (nI k) = f_MO_lay_L238 y m a' (nI (k + 1))
      rw [f_MO_lay_L238.eq_2, ra.2.1, if_neg (nI_ge hk (by omega))]
      simp only [G_n (show k < 64 by omega) (show 64 < 2147483648 by decide)]
      rw [cl (by omega), ra.2.2.1 k hk, nI_1]
      have fin : ∀ x : Int32, (x = if ld k = true then we k else -5) → (∀ f, f < k + 1 → (sI a 70 k x).1 70 f = if ld f = true then we f else -5) ∧ (∀ q, q ≠ 70 → (sI a 70 k x).1 q = ν.1 q) ∧ (sI a 70 k x).2 = ν.2 := by
        intro x hx
        refine ⟨fun f hf => ?_, fun q hq => by rw [sI_ne hq]; exact g2 q hq, g3⟩
        by_cases e : f = k
        · subst e; rw [sI_at]; exact hx
        · rw [sI_off e]; exact g1 f (by omega)
      by_cases c : ld k = true
      · rw [if_pos c, if_pos rfl, MO_endOf hz (fun f hf => by rw [g2 69 (by decide)]; exact hd f hf) (we := we) (fun f hf => by rw [g2 69 (by decide)]; exact hw f hf) c]
        exact ⟨_, fin (we k) (by rw [if_pos c]), rfl⟩
      · rw [if_neg c, if_neg (by decide)]
        exact ⟨_, fin (-5) (by rw [if_neg c]), rfl⟩)
end WAYSM
