/-! ===== lay: what may be laid ===== -/
def ln (ν : Mem) (r : Nat) : Nat := (ν.1 65 r).toNatClampNeg
theorem ln_of {μ ν : Mem} (h : StT μ ν) {r : Nat} (hr : r < 8) : ν.1 65 r = nI (ln ν r) ∧ μ.1 (2 + r) 2 = nI (ln ν r) ∧ ln ν r ≤ 12 := by
  obtain ⟨n, n12, h1, h2⟩ := strip_len h hr
  have : ln ν r = n := by unfold ln; rw [h2, cl (by omega)]
  rw [this]
  exact ⟨h2, h1, n12⟩
theorem ST_place {μ ν : Mem} (h : StT μ ν) {r : Nat} (hr : r < 8) (c : Nat) (hc : c < 2147483648) : f_ST_hasPlace μ r (nI c) = if c < ln ν r then 1 else 0 := by
  obtain ⟨h1, h2, h3⟩ := ln_of h hr
  rcases ST_hasPlace h2 h3 (nI c) with ⟨e, q⟩ | ⟨e, i, hi, q⟩
  · rw [e, if_neg]
    rw [nI_toInt hc] at q
    omega
  · have := nI_inj hc (by omega) q
    subst this
    rw [e, if_pos hi]
theorem MO_place {μ ν : Mem} (h : StT μ ν) {r : Nat} (hr : r < 8) (c : Nat) (hc : c < 2147483648) : f_MO_isPlace ν (nI r) (nI c) = some (if c < ln ν r then 1 else 0) := by
  obtain ⟨h1, h2, h3⟩ := ln_of h hr
  obtain ⟨g1, g2, g3, g4, g5, g6⟩ := h r hr
  unfold f_MO_isPlace
  simp only [G_n hr (show 8 < 2147483648 by decide)]
  rw [cl (by omega)]
  by_cases k : ν.1 64 r < 0
  · rw [if_pos k]
    have e0 : (0 : Int32).toInt = 0 := rfl
    have em : (-1 : Int32).toInt = -1 := rfl
    rw [fa_lt, e0] at k
    have e1 := g5 ((fa_eq _ _).mpr (by rw [em]; omega))
    have : ln ν r = 0 := by unfold ln; rw [e1]; rfl
    rw [this, if_neg (by omega)]
  · rw [if_neg k, h1]
    by_cases q : c < ln ν r
    · rw [if_neg (nI_ge q (by omega)), if_pos q]
    · rw [if_pos (nI_le (by omega) hc), if_neg q]
def okh (x : Int32) : Prop := -1000000 ≤ x.toInt ∧ x.toInt ≤ 1000000
def okc (ν : Mem) (r c : Nat) : Prop := c < ln ν r → okh (ν.1 66 (12 * r + c))
theorem LR_isHeight (x : Int32) : (okh x ∧ f_LR_isHeight x = 1) ∨ (¬ okh x ∧ f_LR_isHeight x = 0) := by
  have e1 : (-1000000 : Int32).toInt = -1000000 := rfl
  have e2 : (1000000 : Int32).toInt = 1000000 := rfl
  unfold f_LR_isHeight okh
  by_cases h1 : x < -1000000
  · rw [if_pos h1]
    rw [fa_lt, e1] at h1
    exact Or.inr ⟨by omega, rfl⟩
  · rw [if_neg h1]
    rw [fa_lt, e1] at h1
    by_cases h2 : 1000000 < x
    · rw [if_pos h2]
      rw [fa_lt, e2] at h2
      exact Or.inr ⟨by omega, rfl⟩
    · rw [if_neg h2]
      rw [fa_lt, e2] at h2
      exact Or.inl ⟨by omega, rfl⟩
theorem MO_isHeight (x : Int32) : (okh x ∧ f_MO_in x.toInt64 (-1000000) 1000000 = 1) ∨ (¬ okh x ∧ f_MO_in x.toInt64 (-1000000) 1000000 = 0) := by
  have e1 : (-1000000 : Int32).toInt = -1000000 := rfl
  have e2 : (1000000 : Int32).toInt = 1000000 := rfl
  by_cases h : okh x
  · exact Or.inl ⟨h, MOin_yes (x := x) (a := -1000000) (b := 1000000) (by rw [fa_le, e1]; exact h.1) (by rw [fa_le, e2]; exact h.2)⟩
  · refine Or.inr ⟨h, MOin_no (x := x) (a := -1000000) (b := 1000000) ?_⟩
    rw [fa_lt, fa_lt, e1, e2]
    unfold okh at h
    omega
section LAY1
variable {μ ν : Mem} {w h : Nat}
/-- one turn of the class's inner look -/
theorem canL_go (hs : StT μ ν) (hw : w ≤ 8) {r : Nat} (hr : r < 8) (y2 : Int32) (K : Unit → Option Int32) (m c : Nat) (hc : c < w) (q0 : okc ν r c) : f_LR_canBeLaid_L10 μ (nI w) y2 (nI r) K (m + 1) (nI c) = f_LR_canBeLaid_L10 μ (nI w) y2 (nI r) K m (nI (c + 1)) := by
  have hl := ln_of hs hr
  rw [f_LR_canBeLaid_L10.eq_2, if_neg (nI_ge hc (by omega)), nI_1]
  simp only [G_n hr (show 8 < 2147483648 by decide)]
  rw [cl (by omega), ST_place hs hr c (by omega)]
  by_cases q : c < ln ν r
  · rw [if_pos q, if_neg (by decide), G_n (by omega) (by decide), cl (by omega), (hs r hr).2.2.2.2.2 c (by omega)]
    rcases LR_isHeight (ν.1 66 (12 * r + c)) with ⟨h1, h2⟩ | ⟨h1, h2⟩
    · rw [h2, if_neg (by decide)]
    · exact absurd (q0 q) h1
  · rw [if_neg q, if_pos rfl]
theorem canL_no (hs : StT μ ν) (hw : w ≤ 8) {r : Nat} (hr : r < 8) (y2 : Int32) (K : Unit → Option Int32) (m c : Nat) (hc : c < w) (q0 : ¬ okc ν r c) : f_LR_canBeLaid_L10 μ (nI w) y2 (nI r) K (m + 1) (nI c) = some 0 := by
  have hl := ln_of hs hr
  rw [f_LR_canBeLaid_L10.eq_2, if_neg (nI_ge hc (by omega)), nI_1]
  simp only [G_n hr (show 8 < 2147483648 by decide)]
  rw [cl (by omega), ST_place hs hr c (by omega)]
  by_cases q : c < ln ν r
  · rw [if_pos q, if_neg (by decide), G_n (by omega) (by decide), cl (by omega), (hs r hr).2.2.2.2.2 c (by omega)]
    rcases LR_isHeight (ν.1 66 (12 * r + c)) with ⟨h1, h2⟩ | ⟨h1, h2⟩
    · exact absurd (fun _ => h1) q0
    · rw [h2, if_pos rfl]
  · exact absurd (fun q2 => absurd q2 q) q0
theorem canL_ok (hs : StT μ ν) (hw : w ≤ 8) {r : Nat} (hr : r < 8) (y2 : Int32) (K : Unit → Option Int32) (hok : ∀ c, c < w → okc ν r c) : f_LR_canBeLaid_L10 μ (nI w) y2 (nI r) K FU 0 = K () := by
  exact lp_b0 (fun m (_ : Unit) c => f_LR_canBeLaid_L10 μ (nI w) y2 (nI r) K m (nI c)) (fun _ _ => True) (fun o => o = K ()) w () (by omega) trivial
    (fun m _ _ => by show f_LR_canBeLaid_L10 μ (nI w) y2 (nI r) K (m + 1) (nI w) = _; rw [f_LR_canBeLaid_L10.eq_2, if_pos (Int32.le_refl _)])
    (fun m _ c hc _ => Or.inr ⟨(), trivial, by
      show f_LR_canBeLaid_L10 μ (nI w) y2 (nI r) K (m + 1) (nI c) = _
      rw [canL_go hs hw hr y2 K m c hc (hok c hc)]⟩)
theorem canL_bad (hs : StT μ ν) (hw : w ≤ 8) {r : Nat} (hr : r < 8) (y2 : Int32) (K : Unit → Option Int32) (hb : ∃ c, c < w ∧ ¬ okc ν r c) : f_LR_canBeLaid_L10 μ (nI w) y2 (nI r) K FU 0 = some 0 := by
  obtain ⟨c0, hc0, hbad⟩ := hb
  exact lp_b0 (fun m (_ : Unit) c => f_LR_canBeLaid_L10 μ (nI w) y2 (nI r) K m (nI c)) (fun c _ => c ≤ c0) (fun o => o = some 0) w () (by omega) (Nat.zero_le _)
    (fun m _ hI => absurd hI (by omega))
    (fun m _ c hc hI => by
      show f_LR_canBeLaid_L10 μ (nI w) y2 (nI r) K (m + 1) (nI c) = _ ∨ ∃ _, _ ∧ f_LR_canBeLaid_L10 μ (nI w) y2 (nI r) K (m + 1) (nI c) = _
      by_cases q : okc ν r c
      · rw [canL_go hs hw hr y2 K m c hc q]
        refine Or.inr ⟨(), ?_, rfl⟩
        have : c ≠ c0 := fun e => hbad (e ▸ q)
        omega
      · rw [canL_no hs hw hr y2 K m c hc q]
        exact Or.inl rfl)
theorem LR_canBeLaid (hs : StT μ ν) (hw : w ≤ 8) (hh : h ≤ 8) : ((∀ r, r < h → ∀ c, c < w → okc ν r c) ∧ f_LR_canBeLaid μ (nI w) (nI h) = some 1) ∨ ((∃ r, r < h ∧ ∃ c, c < w ∧ ¬ okc ν r c) ∧ f_LR_canBeLaid μ (nI w) (nI h) = some 0) := by
  unfold f_LR_canBeLaid
  by_cases hok : ∀ r, r < h → ∀ c, c < w → okc ν r c
  · refine Or.inl ⟨hok, ?_⟩
    exact lp_b0 (fun m (_ : Unit) r => f_LR_canBeLaid_L2 μ (nI w) (nI h) (fun _ => some 1) m (nI r)) (fun _ _ => True) (fun o => o = some 1) h () (by omega) trivial
      (fun m _ _ => by show f_LR_canBeLaid_L2 μ (nI w) (nI h) (fun _ => some 1) (m + 1) (nI h) = _; rw [f_LR_canBeLaid_L2.eq_2, if_pos (Int32.le_refl _)])
      (fun m _ r hr _ => Or.inr ⟨(), trivial, by
        show f_LR_canBeLaid_L2 μ (nI w) (nI h) (fun _ => some 1) (m + 1) (nI r) = _
        rw [f_LR_canBeLaid_L2.eq_2, if_neg (nI_ge hr (by omega)), canL_ok hs hw (by omega) _ _ (hok r hr), nI_1]⟩)
  · have hex : ∃ r, r < h ∧ ∃ c, c < w ∧ ¬ okc ν r c := by
      refine Classical.byContradiction (fun hn => hok (fun r hr c hc => Classical.byContradiction (fun q => hn ⟨r, hr, c, hc, q⟩)))
    refine Or.inr ⟨hex, ?_⟩
    obtain ⟨r0, hr0, hb⟩ := hex
    exact lp_b0 (fun m (_ : Unit) r => f_LR_canBeLaid_L2 μ (nI w) (nI h) (fun _ => some 1) m (nI r)) (fun r _ => r ≤ r0) (fun o => o = some 0) h () (by omega) (Nat.zero_le _)
      (fun m _ hI => absurd hI (by omega))
      (fun m _ r hr hI => by
        show f_LR_canBeLaid_L2 μ (nI w) (nI h) (fun _ => some 1) (m + 1) (nI r) = _ ∨ ∃ _, _ ∧ f_LR_canBeLaid_L2 μ (nI w) (nI h) (fun _ => some 1) (m + 1) (nI r) = _
        rw [f_LR_canBeLaid_L2.eq_2, if_neg (nI_ge hr (by omega))]
        by_cases q : ∃ c, c < w ∧ ¬ okc ν r c
        · rw [canL_bad hs hw (by omega) _ _ q]
          exact Or.inl rfl
        · have q2 : ∀ c, c < w → okc ν r c := fun c hc => Classical.byContradiction (fun e => q ⟨c, hc, e⟩)
          rw [canL_ok hs hw (by omega) _ _ q2, nI_1]
          refine Or.inr ⟨(), ?_, rfl⟩
          have : r ≠ r0 := fun e => q (e ▸ hb)
          omega)
/-! the reference's look -/
theorem MO_stripAt {r c : Nat} (hr : r < 8) (hc : c < 12) : f_MO_stripAt ν (nI r) (nI c) = some (ν.1 66 (12 * r + c)) := by
  unfold f_MO_stripAt
  rw [ix12, G_n (by omega) (by decide), cl (by omega)]
theorem layM_go (hs : StT μ ν) (hw : w ≤ 8) {r : Nat} (hr : r < 8) (y2 : Int32) (K : Unit → Option (Int32 × Mem)) (m c : Nat) (hc : c < w) (q0 : okc ν r c) : f_MO_lay_L36 ν (nI w) y2 (nI r) K (m + 1) (nI c) = f_MO_lay_L36 ν (nI w) y2 (nI r) K m (nI (c + 1)) := by
  have hl := ln_of hs hr
  rw [f_MO_lay_L36.eq_2, if_neg (nI_ge hc (by omega)), nI_1, MO_place hs hr c (by omega)]
  simp only [Option.bind_some]
  by_cases q : c < ln ν r
  · rw [if_pos q, if_neg (by decide), MO_stripAt hr (by omega)]
    simp only [Option.bind_some]
    rcases MO_isHeight (ν.1 66 (12 * r + c)) with ⟨h1, h2⟩ | ⟨h1, h2⟩
    · rw [h2, if_neg (by decide)]
    · exact absurd (q0 q) h1
  · rw [if_neg q, if_pos rfl]
theorem layM_no (hs : StT μ ν) (hw : w ≤ 8) {r : Nat} (hr : r < 8) (y2 : Int32) (K : Unit → Option (Int32 × Mem)) (m c : Nat) (hc : c < w) (q0 : ¬ okc ν r c) : f_MO_lay_L36 ν (nI w) y2 (nI r) K (m + 1) (nI c) = some (-1, ν) := by
  have hl := ln_of hs hr
  rw [f_MO_lay_L36.eq_2, if_neg (nI_ge hc (by omega)), nI_1, MO_place hs hr c (by omega)]
  simp only [Option.bind_some]
  by_cases q : c < ln ν r
  · rw [if_pos q, if_neg (by decide), MO_stripAt hr (by omega)]
    simp only [Option.bind_some]
    rcases MO_isHeight (ν.1 66 (12 * r + c)) with ⟨h1, h2⟩ | ⟨h1, h2⟩
    · exact absurd (fun _ => h1) q0
    · rw [h2, if_pos rfl]
  · exact absurd (fun q2 => absurd q2 q) q0
theorem layM_ok (hs : StT μ ν) (hw : w ≤ 8) {r : Nat} (hr : r < 8) (y2 : Int32) (K : Unit → Option (Int32 × Mem)) (hok : ∀ c, c < w → okc ν r c) : f_MO_lay_L36 ν (nI w) y2 (nI r) K FU 0 = K () := by
  exact lp_b0 (fun m (_ : Unit) c => f_MO_lay_L36 ν (nI w) y2 (nI r) K m (nI c)) (fun _ _ => True) (fun o => o = K ()) w () (by omega) trivial
    (fun m _ _ => by show f_MO_lay_L36 ν (nI w) y2 (nI r) K (m + 1) (nI w) = _; rw [f_MO_lay_L36.eq_2, if_pos (Int32.le_refl _)])
    (fun m _ c hc _ => Or.inr ⟨(), trivial, by
      show f_MO_lay_L36 ν (nI w) y2 (nI r) K (m + 1) (nI c) = _
      rw [layM_go hs hw hr y2 K m c hc (hok c hc)]⟩)
theorem layM_bad (hs : StT μ ν) (hw : w ≤ 8) {r : Nat} (hr : r < 8) (y2 : Int32) (K : Unit → Option (Int32 × Mem)) (hb : ∃ c, c < w ∧ ¬ okc ν r c) : f_MO_lay_L36 ν (nI w) y2 (nI r) K FU 0 = some (-1, ν) := by
  obtain ⟨c0, hc0, hbad⟩ := hb
  exact lp_b0 (fun m (_ : Unit) c => f_MO_lay_L36 ν (nI w) y2 (nI r) K m (nI c)) (fun c _ => c ≤ c0) (fun o => o = some (-1, ν)) w () (by omega) (Nat.zero_le _)
    (fun m _ hI => absurd hI (by omega))
    (fun m _ c hc hI => by
      show f_MO_lay_L36 ν (nI w) y2 (nI r) K (m + 1) (nI c) = _ ∨ ∃ _, _ ∧ f_MO_lay_L36 ν (nI w) y2 (nI r) K (m + 1) (nI c) = _
      by_cases q : okc ν r c
      · rw [layM_go hs hw hr y2 K m c hc q]
        refine Or.inr ⟨(), ?_, rfl⟩
        have : c ≠ c0 := fun e => hbad (e ▸ q)
        omega
      · rw [layM_no hs hw hr y2 K m c hc q]
        exact Or.inl rfl)
theorem layM_look (hs : StT μ ν) (hw : w ≤ 8) (hh : h ≤ 8) (K : Unit → Option (Int32 × Mem)) (hok : ∀ r, r < h → ∀ c, c < w → okc ν r c) : f_MO_lay_L28 ν (nI w) (nI h) K FU 0 = K () := by
  exact lp_b0 (fun m (_ : Unit) r => f_MO_lay_L28 ν (nI w) (nI h) K m (nI r)) (fun _ _ => True) (fun o => o = K ()) h () (by omega) trivial
      (fun m _ _ => by show f_MO_lay_L28 ν (nI w) (nI h) K (m + 1) (nI h) = _; rw [f_MO_lay_L28.eq_2, if_pos (Int32.le_refl _)])
      (fun m _ r hr _ => Or.inr ⟨(), trivial, by
        show f_MO_lay_L28 ν (nI w) (nI h) K (m + 1) (nI r) = _
        rw [f_MO_lay_L28.eq_2, if_neg (nI_ge hr (by omega)), layM_ok hs hw (by omega) _ _ (hok r hr), nI_1]⟩)
theorem layM_lookBad (hs : StT μ ν) (hw : w ≤ 8) (hh : h ≤ 8) (K : Unit → Option (Int32 × Mem)) (hex : ∃ r, r < h ∧ ∃ c, c < w ∧ ¬ okc ν r c) : f_MO_lay_L28 ν (nI w) (nI h) K FU 0 = some (-1, ν) := by
  obtain ⟨r0, hr0, hb⟩ := hex
  exact lp_b0 (fun m (_ : Unit) r => f_MO_lay_L28 ν (nI w) (nI h) K m (nI r)) (fun r _ => r ≤ r0) (fun o => o = some (-1, ν)) h () (by omega) (Nat.zero_le _)
      (fun m _ hI => absurd hI (by omega))
      (fun m _ r hr hI => by
        show f_MO_lay_L28 ν (nI w) (nI h) K (m + 1) (nI r) = _ ∨ ∃ _, _ ∧ f_MO_lay_L28 ν (nI w) (nI h) K (m + 1) (nI r) = _
        rw [f_MO_lay_L28.eq_2, if_neg (nI_ge hr (by omega))]
        by_cases q : ∃ c, c < w ∧ ¬ okc ν r c
        · rw [layM_bad hs hw (by omega) _ _ q]
          exact Or.inl rfl
        · have q2 : ∀ c, c < w → okc ν r c := fun c hc => Classical.byContradiction (fun e => q ⟨c, hc, e⟩)
          rw [layM_ok hs hw (by omega) _ _ q2, nI_1]
          refine Or.inr ⟨(), ?_, rfl⟩
          have : r ≠ r0 := fun e => q (e ▸ hb)
          omega)
end LAY1
