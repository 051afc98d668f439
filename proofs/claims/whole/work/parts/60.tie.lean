def JJ (μ ν : Mem) : Prop := μ = μ ∧ ν = ν
theorem J_steps : JStp JJ := sorry
theorem J_init : ∀ f : Nat → Int32, (∀ j, j < 8 → f j = -1) → JJ mu0 (nu0 f) := sorry
