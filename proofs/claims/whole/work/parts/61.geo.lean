/-! ===== the grid, the order of fields ===== -/
/-- the field at a side, on the grid -/
def gnb (w n f k : Nat) : Option Nat :=
  if k = 0 then (if w ≤ f then some (f - w) else none)
  else if k = 1 then (if 0 < f % w then some (f - 1) else none)
  else if k = 2 then (if f % w + 1 < w then some (f + 1) else none)
  else (if f + w < n then some (f + w) else none)
/-- the neighbour at a side that is no sea -/
def nbr (w n : Nat) (ld : Nat → Bool) (f k : Nat) : Option Nat := match gnb w n f k with
  | none => none
  | some g => if ld g = true then some g else none
def Sz (w n : Nat) (ld : Nat → Bool) : Prop := 1 ≤ w ∧ w ≤ 8 ∧ n ≤ 64 ∧ (∃ h, 1 ≤ h ∧ h ≤ 8 ∧ n = w * h) ∧ ∀ g, ld g = true → g < n
def enc : Option Nat → Int32
  | none => -5
  | some g => nI g
theorem enc_some (g : Nat) : enc (some g) = nI g := rfl
theorem enc_none : enc none = -5 := rfl
theorem nI_n5 {k : Nat} (h : k < 2147483648) : ¬ nI k = -5 := by
  rw [fa_eq, nI_toInt h]
  have : (-5 : Int32).toInt = -5 := rfl
  omega
theorem nI_n3 {k : Nat} (h : k < 2147483648) : ¬ nI k = -3 := by
  rw [fa_eq, nI_toInt h]
  have : (-3 : Int32).toInt = -3 := rfl
  omega
theorem nI_inj {a b : Nat} (ha : a < 2147483648) (hb : b < 2147483648) (h : nI a = nI b) : a = b := (nI_eq ha hb).mp h
theorem gnb_lt {w n f k g : Nat} (hw : 1 ≤ w) (hn : ∃ h, n = w * h) (hf : f < n) (h : gnb w n f k = some g) : g < n ∧ g ≠ f := by
  unfold gnb at h
  obtain ⟨hh, rfl⟩ := hn
  by_cases k0 : k = 0
  · rw [if_pos k0] at h
    by_cases c : w ≤ f
    · rw [if_pos c] at h; cases h; omega
    · rw [if_neg c] at h; cases h
  rw [if_neg k0] at h
  by_cases k1 : k = 1
  · rw [if_pos k1] at h
    by_cases c : 0 < f % w
    · rw [if_pos c] at h; cases h
      have : f % w ≤ f := Nat.mod_le f w
      omega
    · rw [if_neg c] at h; cases h
  rw [if_neg k1] at h
  by_cases k2 : k = 2
  · rw [if_pos k2] at h
    by_cases c : f % w + 1 < w
    · rw [if_pos c] at h; cases h
      refine ⟨?_, by omega⟩
      have h1 := Nat.div_add_mod f w
      have h2 : f / w < hh := Nat.div_lt_of_lt_mul hf
      have h3 : w * (f / w) + w ≤ w * hh := by
        have := Nat.mul_le_mul_left w (show f / w + 1 ≤ hh from h2)
        rw [Nat.mul_add, Nat.mul_one] at this
        exact this
      omega
    · rw [if_neg c] at h; cases h
  rw [if_neg k2] at h
  by_cases c : f + w < w * hh
  · rw [if_pos c] at h; cases h; omega
  · rw [if_neg c] at h; cases h
theorem gnb_sym {w n f k g : Nat} (hw : 1 ≤ w) (hf : f < n) (hk : k < 4) (h : gnb w n f k = some g) : ∃ k', k' < 4 ∧ gnb w n g k' = some f := by
  unfold gnb at h
  by_cases k0 : k = 0
  · rw [if_pos k0] at h
    by_cases c : w ≤ f
    · rw [if_pos c] at h; cases h
      refine ⟨3, by decide, ?_⟩
      unfold gnb
      rw [if_neg (by decide), if_neg (by decide), if_neg (by decide), if_pos (by omega)]
      congr 1
      omega
    · rw [if_neg c] at h; cases h
  rw [if_neg k0] at h
  by_cases k1 : k = 1
  · rw [if_pos k1] at h
    by_cases c : 0 < f % w
    · rw [if_pos c] at h; cases h
      refine ⟨2, by decide, ?_⟩
      have hle : f % w ≤ f := Nat.mod_le f w
      have hlt : f % w < w := Nat.mod_lt f hw
      have e : (f - 1) % w = f % w - 1 := by
        have h1 := Nat.div_add_mod f w
        have h2 : f - 1 = w * (f / w) + (f % w - 1) := by omega
        rw [h2, Nat.mul_add_mod, Nat.mod_eq_of_lt (by omega)]
      unfold gnb
      rw [if_neg (by decide), if_neg (by decide), if_pos rfl, e, if_pos (by omega)]
      congr 1
      omega
    · rw [if_neg c] at h; cases h
  rw [if_neg k1] at h
  by_cases k2 : k = 2
  · rw [if_pos k2] at h
    by_cases c : f % w + 1 < w
    · rw [if_pos c] at h; cases h
      refine ⟨1, by decide, ?_⟩
      have e : (f + 1) % w = f % w + 1 := by
        have h1 := Nat.div_add_mod f w
        have h2 : f + 1 = w * (f / w) + (f % w + 1) := by omega
        rw [h2, Nat.mul_add_mod, Nat.mod_eq_of_lt c]
      unfold gnb
      rw [if_neg (by decide), if_pos rfl, e, if_pos (by omega)]
      congr 1
    · rw [if_neg c] at h; cases h
  rw [if_neg k2] at h
  by_cases c : f + w < n
  · rw [if_pos c] at h; cases h
    refine ⟨0, by decide, ?_⟩
    unfold gnb
    rw [if_pos rfl, if_pos (by omega)]
    congr 1
    omega
  · rw [if_neg c] at h; cases h
theorem nbr_g {w n f k g : Nat} {ld : Nat → Bool} (h : nbr w n ld f k = some g) : gnb w n f k = some g ∧ ld g = true := by
  unfold nbr at h
  cases e : gnb w n f k with
  | none => rw [e] at h; cases h
  | some a =>
    rw [e] at h
    dsimp only at h
    by_cases c : ld a = true
    · rw [if_pos c] at h; cases h; exact ⟨rfl, c⟩
    · rw [if_neg c] at h; cases h
theorem nbr_of {w n f k g : Nat} {ld : Nat → Bool} (h : gnb w n f k = some g) (hl : ld g = true) : nbr w n ld f k = some g := by
  unfold nbr
  rw [h]
  exact if_pos hl
theorem nbr_sym {w n f k g : Nat} {ld : Nat → Bool} (hz : Sz w n ld) (hf : ld f = true) (hk : k < 4) (h : nbr w n ld f k = some g) : ∃ k', k' < 4 ∧ nbr w n ld g k' = some f := by
  obtain ⟨h1, h2⟩ := nbr_g h
  obtain ⟨k', h3, h4⟩ := gnb_sym hz.1 (hz.2.2.2.2 f hf) hk h1
  exact ⟨k', h3, nbr_of h4 hf⟩
theorem nbr_ne {w n f k g : Nat} {ld : Nat → Bool} (hz : Sz w n ld) (hf : f < n) (h : nbr w n ld f k = some g) : g ≠ f ∧ g < n ∧ ld g = true := by
  obtain ⟨h1, h2⟩ := nbr_g h
  obtain ⟨hh, -, -, e⟩ := hz.2.2.2.1
  obtain ⟨h3, h4⟩ := gnb_lt hz.1 ⟨hh, e⟩ hf h1
  exact ⟨h4, h3, h2⟩
/-- lower: by height, then by number -/
def lw (ht : Nat → Int32) (f g : Nat) : Bool := decide (ht f < ht g ∨ (ht f = ht g ∧ f < g))
theorem lw_iff {ht : Nat → Int32} {f g : Nat} : lw ht f g = true ↔ (ht f).toInt < (ht g).toInt ∨ ((ht f).toInt = (ht g).toInt ∧ f < g) := by
  unfold lw
  rw [decide_eq_true_iff, fa_lt, fa_eq]
theorem lw_irr {ht : Nat → Int32} {f : Nat} : ¬ lw ht f f = true := by rw [lw_iff]; omega
theorem lw_tr {ht : Nat → Int32} {f g h : Nat} (h1 : lw ht f g = true) (h2 : lw ht g h = true) : lw ht f h = true := by rw [lw_iff] at *; omega
theorem lw_tot {ht : Nat → Int32} {f g : Nat} (h : f ≠ g) : lw ht f g = true ∨ lw ht g f = true := by rw [lw_iff, lw_iff]; omega
theorem lw_asym {ht : Nat → Int32} {f g : Nat} (h1 : lw ht f g = true) : ¬ lw ht g f = true := by rw [lw_iff] at *; omega
theorem lw_cong {ht ht' : Nat → Int32} {f g : Nat} (h1 : ht f = ht' f) (h2 : ht g = ht' g) : lw ht f g = lw ht' f g := by unfold lw; rw [h1, h2]
/-- how many fields lie lower -/
def rank (n : Nat) (ld : Nat → Bool) (ht : Nat → Int32) (f : Nat) : Nat := fb_ct (fun g => ld g && lw ht g f) n
theorem ct_lt {p q : Nat → Bool} {n a : Nat} (h : ∀ k, k < n → p k = true → q k = true) (ha : a < n) (h1 : p a = false) (h2 : q a = true) : fb_ct p n < fb_ct q n := by
  have e : fb_ct (fun k => if k = a then true else p k) n ≤ fb_ct q n := fb_ct_sub (fun k hk hp => by
    by_cases c : k = a
    · subst c; exact h2
    · rw [if_neg c] at hp; exact h k hk hp)
  have e2 := fb_ct_upd p true ha
  rw [h1, if_neg (by decide), if_pos rfl] at e2
  omega
theorem rank_lt {n : Nat} {ld : Nat → Bool} {ht : Nat → Int32} {a f : Nat} (ha : a < n) (hl : ld a = true) (h : lw ht a f = true) : rank n ld ht a < rank n ld ht f := by
  unfold rank
  refine ct_lt (a := a) (fun k _ hk => ?_) ha ?_ ?_
  · simp only [Bool.and_eq_true] at hk ⊢
    exact ⟨hk.1, lw_tr hk.2 h⟩
  · have : lw ht a a = false := Bool.eq_false_iff.mpr lw_irr
    rw [this, Bool.and_false]
  · rw [hl, h]; rfl
theorem lw_ind {n : Nat} {ld : Nat → Bool} {ht : Nat → Int32} (hld : ∀ g, ld g = true → g < n) {P : Nat → Prop} (h : ∀ f, ld f = true → (∀ a, ld a = true → lw ht a f = true → P a) → P f) : ∀ f, ld f = true → P f := by
  have key : ∀ m f, rank n ld ht f < m → ld f = true → P f := by
    intro m
    induction m with
    | zero => intro f hm; exact absurd hm (Nat.not_lt_zero _)
    | succ m ih =>
      intro f hm hf
      refine h f hf (fun a ha hl => ih a ?_ ha)
      have := rank_lt (hld a ha) ha hl
      omega
  exact fun f hf => key (rank n ld ht f + 1) f (by omega) hf
/-! the two sides' own words of it -/
def ReC (w n : Nat) (ld : Nat → Bool) (ht : Nat → Int32) (μ : Mem) : Prop := μ.1 18 7 = nI w ∧ μ.1 18 8 = nI n ∧ (∀ f, bit (μ.2 18 10) f = ld f) ∧ ∀ f, f < n → μ.1 19 f = ht f
def NbC (w n : Nat) (ld : Nat → Bool) (μ : Mem) : Prop := ∀ f, f < n → ∀ k, k < 4 → μ.1 24 (4 * f + k) = enc (nbr w n ld f k)
def ReM (w n : Nat) (ld : Nat → Bool) (ht : Nat → Int32) (ν : Mem) : Prop := ν.1 63 4 = nI w ∧ ν.1 63 5 = nI n ∧ (∀ f, f < n → ν.1 67 f = if ld f = true then 0 else 1) ∧ ∀ f, f < n → ν.1 68 f = ht f
section SIDES
variable {w n : Nat} {ld : Nat → Bool} {ht : Nat → Int32} {μ ν : Mem}
theorem RE_isField (hn : n ≤ 64) (h : ReC w n ld ht μ) {f : Nat} (hf : f < n) : f_RE_isField μ (nI f) = 1 := by
  unfold f_RE_isField
  rw [if_neg (nI_pos (by omega)), h.2.1, if_neg (nI_ge hf (by omega))]
theorem RE_isField_no (hn : n ≤ 64) (h : ReC w n ld ht μ) {x : Int32} (hx : ¬ (0 ≤ x.toInt ∧ x.toInt < n)) : f_RE_isField μ x = 0 := by
  unfold f_RE_isField
  by_cases c : x < 0
  · rw [if_pos c]
  · rw [if_neg c, h.2.1, if_pos]
    rw [fa_lt] at c
    have : (0 : Int32).toInt = 0 := rfl
    rw [fa_le, nI_toInt (by omega)]
    omega
theorem RE_isLand (hz : Sz w n ld) (h : ReC w n ld ht μ) {f : Nat} (hf : f < n) : f_RE_isLand μ (nI f) = if ld f = true then 1 else 0 := by
  unfold f_RE_isLand
  rw [RE_isField hz.2.2.1 h hf, if_neg (by decide), isIn_eq _ (by have := hz.2.2.1; omega), h.2.2.1 f]
  cases ld f <;> rfl
theorem RE_isLand_no (hz : Sz w n ld) (h : ReC w n ld ht μ) {x : Int32} (hx : ¬ (0 ≤ x.toInt ∧ x.toInt < n)) : f_RE_isLand μ x = 0 := by
  unfold f_RE_isLand
  rw [RE_isField_no hz.2.2.1 h hx, if_pos rfl]
theorem ix4 (f k : Nat) : (4 * nI f + nI k : Int32) = nI (4 * f + k) := by
  show nI 4 * nI f + nI k = _
  rw [pk_mul, nI_add]
theorem RE_beside (hz : Sz w n ld) (h : ReC w n ld ht μ) (hb : NbC w n ld μ) {f k : Nat} (hf : f < n) (hk : k < 4) : f_RE_beside μ (nI f) (nI k) = some (enc (nbr w n ld f k)) := by
  have := hz.2.2.1
  unfold f_RE_beside
  rw [RE_isField hz.2.2.1 h hf, if_neg (by decide), ix4, G_n (by omega) (by decide), cl (by omega), hb f hf k hk]
theorem RE_isLower (hn : n ≤ 64) (h : ReC w n ld ht μ) {f g : Nat} (hf : f < n) (hg : g < n) : f_RE_isLower μ (nI f) (nI g) = some (if lw ht f g = true then 1 else 0) := by
  unfold f_RE_isLower
  simp only [G_n (show f < 64 by omega) (show 64 < 2147483648 by decide), G_n (show g < 64 by omega) (show 64 < 2147483648 by decide)]
  rw [cl (by omega), cl (by omega), h.2.2.2 f hf, h.2.2.2 g hg]
  unfold lw
  by_cases c1 : ht f < ht g
  · rw [if_pos c1, if_pos (by simp [c1])]
  · rw [if_neg c1]
    by_cases c2 : ht f = ht g
    · rw [if_pos c2]
      by_cases c3 : g ≤ f
      · rw [if_pos (nI_le c3 (by omega)), if_neg (by simp [c2, c1]; omega)]
      · rw [if_neg (nI_ge (by omega) (by omega)), if_pos (by simp [c2, c1]; omega)]
    · rw [if_neg c2, if_neg (by simp [c1, c2])]
theorem MO_isLower (hn : n ≤ 64) (h : ReM w n ld ht ν) {f g : Nat} (hf : f < n) (hg : g < n) : f_MO_isLower ν (nI f) (nI g) = some (if lw ht f g = true then 1 else 0) := by
  unfold f_MO_isLower
  simp only [G_n (show f < 64 by omega) (show 64 < 2147483648 by decide), G_n (show g < 64 by omega) (show 64 < 2147483648 by decide)]
  rw [cl (by omega), cl (by omega), h.2.2.2 f hf, h.2.2.2 g hg]
  unfold lw
  by_cases c2 : ht f = ht g
  · have c1 : ¬ ht f < ht g := by rw [c2]; exact Int32.lt_irrefl
    rw [if_pos c2]
    by_cases c3 : g ≤ f
    · rw [if_pos (nI_le c3 (by omega)), if_neg (by simp [c2]; omega)]
    · rw [if_neg (nI_ge (by omega) (by omega)), if_pos (by simp [c2]; omega)]
  · rw [if_neg c2]
    by_cases c1 : ht f < ht g
    · rw [if_neg (Int32.not_le.mpr c1), if_pos (by simp [c1])]
    · rw [if_pos (Int32.not_lt.mp c1), if_neg (by simp [c1, c2])]
theorem MO_beside (hz : Sz w n ld) (h : ReM w n ld ht ν) {f k : Nat} (hf : f < n) (hk : k < 4) : f_MO_beside ν (nI f) (nI k) = some (match gnb w n f k with | none => 64 | some g => nI g) := by
  obtain ⟨z1, z2, z3, -, -⟩ := hz
  unfold f_MO_beside
  rw [h.1, h.2.1]
  have hw0 : ¬ nI w = 0 := nI_ne0 (by omega) (by omega)
  unfold Zg
  rw [if_neg hw0, if_neg hw0, pk_rem (by omega) (by omega) (by omega), pk_div (by omega) (by omega) (by omega)]
  unfold gnb
  by_cases k0 : k = 0
  · subst k0
    rw [if_pos (show nI 0 = 0 from rfl), if_pos rfl]
    by_cases c : w ≤ f
    · have hd : 0 < f / w := Nat.div_pos c (by omega)
      rw [if_neg (nI_nle hd (by have := Nat.div_le_self f w; omega)), if_pos c, pk_sub c]
    · rw [if_neg c, Nat.div_eq_of_lt (by omega), if_pos (by decide)]
  · rw [if_neg (show ¬ nI k = 0 from fun e => k0 (nI_inj (by omega) (by decide) (e.trans nI_0.symm))), if_neg k0]
    have hm : f % w < w := Nat.mod_lt f (by omega)
    by_cases k1 : k = 1
    · subst k1
      rw [if_pos (show nI 1 = 1 from rfl), if_pos rfl]
      by_cases c : 0 < f % w
      · have : f % w ≤ f := Nat.mod_le f w
        rw [if_neg (nI_nle c (by omega)), if_pos c, show (1 : Int32) = nI 1 from rfl, pk_sub (by omega)]
      · rw [if_neg c, if_pos (by rw [show f % w = 0 by omega]; decide)]
    · rw [if_neg (show ¬ nI k = 1 from fun e => k1 (nI_inj (a := k) (b := 1) (by omega) (by decide) e)), if_neg k1]
      by_cases k2 : k = 2
      · subst k2
        rw [if_pos (show nI 2 = 2 from rfl), if_pos rfl, show (1 : Int32) = nI 1 from rfl, pk_sub (by omega)]
        by_cases c : f % w + 1 < w
        · rw [if_neg (nI_ge (by omega) (by omega)), if_pos c, nI_add]
        · rw [if_pos (nI_le (by omega) (by omega)), if_neg c]
      · rw [if_neg (show ¬ nI k = 2 from fun e => k2 (nI_inj (a := k) (b := 2) (by omega) (by decide) e)), if_neg k2, nI_add]
        by_cases c : f + w < n
        · rw [if_neg (nI_ge c (by omega)), if_pos c]
        · rw [if_pos (nI_le (by omega) (by omega)), if_neg c]
theorem MO_isWet (hn : n ≤ 64) (h : ReM w n ld ht ν) {g : Nat} (hg : g < n) : f_MO_isWet ν (nI g) = some (if ld g = true then 0 else 1) := by
  unfold f_MO_isWet
  rw [if_neg (fun e => by have := nI_inj (a := g) (b := 64) (by omega) (by decide) e; omega), G_n (by omega) (by decide), cl (by omega), h.2.2.1 g hg]
  cases ld g <;> rfl
/-- a side of a field, as the reference sees it -/
theorem MO_side (hz : Sz w n ld) (h : ReM w n ld ht ν) {f k : Nat} (hf : f < n) (hk : k < 4) : ∃ v, f_MO_beside ν (nI f) (nI k) = some v ∧ ((v = 64 ∧ nbr w n ld f k = none ∧ f_MO_isWet ν v = some 1) ∨ (∃ g, g < n ∧ v = nI g ∧ ld g = false ∧ nbr w n ld f k = none ∧ f_MO_isWet ν v = some 1) ∨ ∃ g, g < n ∧ v = nI g ∧ ld g = true ∧ nbr w n ld f k = some g ∧ f_MO_isWet ν v = some 0) := by
  refine ⟨_, MO_beside hz h hf hk, ?_⟩
  unfold nbr
  cases e : gnb w n f k with
  | none => exact Or.inl ⟨rfl, rfl, by unfold f_MO_isWet; rw [if_pos rfl]⟩
  | some g =>
    obtain ⟨hh, -, -, en⟩ := hz.2.2.2.1
    obtain ⟨h3, h4⟩ := gnb_lt hz.1 ⟨hh, en⟩ hf e
    dsimp only
    by_cases c : ld g = true
    · exact Or.inr (Or.inr ⟨g, h3, rfl, c, if_pos c, by rw [MO_isWet hz.2.2.1 h h3, if_pos c]⟩)
    · exact Or.inr (Or.inl ⟨g, h3, rfl, Bool.eq_false_iff.mpr c, if_neg c, by rw [MO_isWet hz.2.2.1 h h3, if_neg c]⟩)
end SIDES
