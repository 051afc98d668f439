/-! ===== all calls keep the tie ===== -/
theorem J_steps : JStp JJ := by
  refine ⟨?_, ?_, ?_, ?_, ?_, ?_, ?_, ?_, ?_, ?_, ?_, ?_, ?_, ?_, ?_, ?_⟩
  · intro μ ν a b c h
    obtain ⟨r, μ', ν', h1, h2, h3, h4⟩ := st_strip μ ν a b c h.1
    exact ⟨r, μ', ν', h1, h2, JJ_fr h h3 h4⟩
  · intro μ ν a b c h
    obtain ⟨r, μ', ν', h1, h2, h3, h4⟩ := st_put μ ν a b c h.1
    exact ⟨r, μ', ν', h1, h2, JJ_fr h h3 h4⟩
  · intro μ ν a b c d e h
    obtain ⟨r, μ', ν', h1, h2, h3, h4⟩ := st_copy μ ν a b c d e h.1
    exact ⟨r, μ', ν', h1, h2, JJ_fr h h3 h4⟩
  · intro μ ν a b h
    obtain ⟨r, h1, h2⟩ := st_told μ ν a b h.1
    exact ⟨r, h1, h2, h⟩
  · exact fun μ ν a b h => j_lay a b h
  · exact fun μ ν a b h => j_field a b h
  · exact fun μ ν a h => j_hollow a h
  · exact fun μ ν a b h => j_lake a b h
  · exact fun μ ν a b h => j_ground a b h
  · exact fun μ ν a b h => j_holds a b h
  · exact fun μ ν a b h => j_area a b h
  · exact fun μ ν a b h => j_pour a b h
  · exact fun μ ν a b h => j_level a b h
  · exact fun μ ν a h => j_rise a h
  · exact fun μ ν a h => j_islands a h
  · exact fun μ ν a h => j_count a h
theorem J_init : ∀ f : Nat → Int32, (∀ j, j < 8 → f j = -1) → JJ mu0 (nu0 f) := by
  intro f hf
  refine ⟨fun r hr => ?_, Or.inl ⟨rfl, rfl⟩⟩
  have e64 : (nu0 f).1 64 r = -1 := hf r hr
  have e65 : (nu0 f).1 65 r = 0 := rfl
  have m1 : mu0.1 (2 + r) = fun j => if j = 1 then -1 else 0 := if_pos ⟨by omega, by omega⟩
  have m2 : ∀ i, mu0.1 (10 + r) i = 0 := by
    intro i
    show (if 2 ≤ 10 + r ∧ 10 + r < 10 then (fun j => if j = 1 then (-1 : Int32) else 0) else if 10 + r = 18 then (fun j => if j = 7 then 1 else 0) else if 28 ≤ 10 + r ∧ 10 + r < 63 then (fun j => if 1 ≤ j ∧ j ≤ 4 then -3 else 0) else (fun _ => 0)) i = 0
    rw [if_neg (by omega), if_neg (by omega), if_neg (by omega)]
  rw [e64, e65, m1]
  refine ⟨rfl, rfl, by decide, by decide, fun _ => rfl, fun i _ => ?_⟩
  rw [m2]
  rfl
