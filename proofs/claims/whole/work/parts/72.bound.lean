/-! ===== never more than 35 lakes ===== -/
theorem ct_inj {p : Nat → Bool} {n m : Nat} (φ : Nat → Nat) (h1 : ∀ z, z < n → p z = true → φ z < m) (h2 : ∀ z z', z < n → z' < n → p z = true → p z' = true → φ z = φ z' → z = z') : fb_ct p n ≤ m := by
  have key : ∀ k, k ≤ n → ∃ q : Nat → Bool, (∀ y, q y = true → ∃ z, z < k ∧ p z = true ∧ φ z = y) ∧ fb_ct p k ≤ fb_ct q m := by
    intro k
    induction k with
    | zero => intro _; exact ⟨fun _ => false, fun y h => (by cases h), Nat.zero_le _⟩
    | succ k ih =>
      intro hk
      obtain ⟨q, q1, q2⟩ := ih (by omega)
      cases hp : p k with
      | false =>
        refine ⟨q, fun y hy => ?_, ?_⟩
        · obtain ⟨z, z1, z2⟩ := q1 y hy
          exact ⟨z, by omega, z2⟩
        · rw [fb_ct_succ, hp]
          simpa using q2
      | true =>
        have u := fb_ct_upd q true (h1 k (by omega) hp)
        have hq : q (φ k) = false := by
          cases c : q (φ k) with
          | false => rfl
          | true =>
            obtain ⟨z, z1, z2, z3⟩ := q1 _ c
            have := h2 z k (by omega) (by omega) z2 hp z3
            omega
        rw [hq, if_neg (by decide), if_pos rfl] at u
        refine ⟨fun y => if y = φ k then true else q y, fun y hy => ?_, ?_⟩
        · by_cases c : y = φ k
          · exact ⟨k, by omega, hp, c.symm⟩
          · obtain ⟨z, z1, z2⟩ := q1 y (by simpa [c] using hy)
            exact ⟨z, by omega, z2⟩
        · rw [fb_ct_succ, hp, if_pos rfl]
          omega
  obtain ⟨q, -, q2⟩ := key n (Nat.le_refl _)
  exact Nat.le_trans q2 (fb_ct_le q m)
section BOUND
variable {w n : Nat} {ld : Nat → Bool} {ht : Nat → Int32} {dn : Nat → Int32} {σ : qLS} {U : Nat → Bool}
theorem hol_in (hz : Sz w n ld) {z : Nat} (hd : Dn ht (nbr w n ld z) z (dn z)) (h3 : dn z = -3) : w ≤ z ∧ 0 < z % w ∧ z % w + 1 < w ∧ z + w < n ∧ (∀ k, k < 4 → ∀ g, nbr w n ld z k = some g → lw ht z g = true) ∧ nbr w n ld z 1 = some (z - 1) ∧ nbr w n ld z 2 = some (z + 1) := by
  rcases hd with ⟨e, -⟩ | ⟨hb, ⟨-, hlw⟩ | ⟨a, e, ⟨k, hk, hn⟩, h5⟩⟩
  · rw [h3] at e; exact absurd e (by decide)
  · have nn : ∀ k, k < 4 → ∃ g, nbr w n ld z k = some g := by
      intro k hk
      cases c : nbr w n ld z k with
      | none => exact absurd ⟨k, hk, c⟩ hb
      | some g => exact ⟨g, rfl⟩
    obtain ⟨g0, e0⟩ := nn 0 (by decide)
    obtain ⟨g1, e1⟩ := nn 1 (by decide)
    obtain ⟨g2, e2⟩ := nn 2 (by decide)
    obtain ⟨g3, e3⟩ := nn 3 (by decide)
    have a0 := (nbr_g e0).1
    have a1 := (nbr_g e1).1
    have a2 := (nbr_g e2).1
    have a3 := (nbr_g e3).1
    unfold gnb at a0 a1 a2 a3
    simp at a0 a1 a2 a3
    refine ⟨a0.1, a1.1, a2.1, a3.1, hlw, ?_, ?_⟩
    · rw [e1, a1.2]
    · rw [e2, a2.2]
  · rw [h3] at e
    have hb2 : ¬ bsea (nbr w n ld z) := hb
    have := (nbr_g hn).2
    exact absurd e.symm (nI_n3 (by have := hz.2.2.2.2 a this; have := hz.2.2.1; omega))
theorem hol_18 (hz : Sz w n ld) (hdn : ∀ f, ld f = true → Dn ht (nbr w n ld f) f (dn f)) (hU : ∀ f, U f = true → ld f = true) : fb_ct (fun z => U z && decide (dn z = -3)) n ≤ 18 := by
  refine ct_inj (fun z => 3 * (z / w - 1) + (z % w - 1) / 2) ?_ ?_
  · intro z hzn hp
    simp at hp
    obtain ⟨i1, i2, i3, i4, -⟩ := hol_in hz (hdn z (hU z hp.1)) hp.2
    obtain ⟨z1, z2, z3, ⟨h, h1, h8, en⟩, -⟩ := hz
    have hr : z / w + 1 < h := by
      have : (z + w) / w < h := Nat.div_lt_of_lt_mul (by rw [← en]; exact i4)
      rw [Nat.add_div_right z (by omega)] at this
      exact this
    omega
  · intro z z' hz1 hz2 hp hp' e
    simp at hp hp'
    obtain ⟨i1, i2, i3, i4, i5, i6, i7⟩ := hol_in hz (hdn z (hU z hp.1)) hp.2
    obtain ⟨j1, j2, j3, j4, j5, j6, j7⟩ := hol_in hz (hdn z' (hU z' hp'.1)) hp'.2
    have r1 : 1 ≤ z / w := Nat.div_pos i1 hz.1
    have r2 : 1 ≤ z' / w := Nat.div_pos j1 hz.1
    have hw8 := hz.2.1
    have er : z / w = z' / w := by omega
    have ec : (z % w - 1) / 2 = (z' % w - 1) / 2 := by omega
    have d1 := Nat.div_add_mod z w
    have d2 := Nat.div_add_mod z' w
    rw [er] at d1
    have hc : z = z' ∨ z' = z + 1 ∨ z = z' + 1 := by omega
    rcases hc with c | c | c
    · exact c
    · exfalso
      have l1 := i5 2 (by decide) _ i7
      have l2 := j5 1 (by decide) _ j6
      rw [c] at l2
      exact lw_asym l1 (by simpa using l2)
    · exfalso
      have l1 := j5 2 (by decide) _ j7
      have l2 := i5 1 (by decide) _ i6
      rw [c] at l2
      exact lw_asym l1 (by simpa using l2)
theorem q_35 (hz : Sz w n ld) (hdn : ∀ f, ld f = true → Dn ht (nbr w n ld f) f (dn f)) (hN : qN σ < 1000) (hI : qInv w n ld dn σ U) : qN σ ≤ 35 := by
  obtain ⟨⟨-, -, a3, -, -⟩, -, i3, -, -, -, -, -, h1, h2⟩ := hI
  have b := hol_18 hz hdn a3
  rcases Nat.eq_zero_or_pos (qN σ) with c | c
  · omega
  · have : 0 < fb_ct (qR (qW σ)) (qN σ) := by
      rw [fb_ct_pos]
      refine ⟨qN σ - 1, by omega, ?_⟩
      unfold qR
      rcases i3 (qN σ - 1) (by omega) with q | q | ⟨m, o, r, q1, q2, -⟩
      · simp [q.1]
      · simp [q.1]
      · omega
    omega
end BOUND
