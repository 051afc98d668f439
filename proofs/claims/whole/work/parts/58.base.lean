/-! ===== bits, guards, loops ===== -/
def bit (x : Int64) (f : Nat) : Bool := x.toBitVec.getLsbD f
theorem lg_eq0 {x y : Int64} : lg_cmp x y = 0 ↔ x = y := by
  unfold lg_cmp
  by_cases h1 : x > y
  · rw [if_pos h1]
    constructor
    · intro h; exact absurd h (by decide)
    · intro h; subst h; exact absurd h1 Int64.lt_irrefl
  · rw [if_neg h1]
    by_cases h2 : x = y
    · rw [if_pos h2]; exact ⟨fun _ => h2, fun _ => rfl⟩
    · rw [if_neg h2]
      constructor
      · intro h; exact absurd h (by decide)
      · intro h; exact absurd h h2
theorem lg_lt0 {x y : Int64} : lg_cmp x y < 0 ↔ x < y := by
  unfold lg_cmp
  by_cases h1 : x > y
  · rw [if_pos h1]
    exact ⟨fun h => absurd h (by decide), fun h => absurd (Int64.lt_trans h h1) Int64.lt_irrefl⟩
  · rw [if_neg h1]
    by_cases h2 : x = y
    · rw [if_pos h2]
      exact ⟨fun h => absurd h (by decide), fun h => by subst h2; exact absurd h Int64.lt_irrefl⟩
    · rw [if_neg h2]
      refine ⟨fun _ => ?_, fun _ => by decide⟩
      have h3 := Int64.not_lt.mp h1
      rw [fa_lt64]
      rw [fa_le64] at h3
      rw [fa_eq64] at h2
      omega
theorem lg_gt0 {x y : Int64} : 0 < lg_cmp x y ↔ y < x := by
  unfold lg_cmp
  by_cases h1 : x > y
  · rw [if_pos h1]; exact ⟨fun _ => h1, fun _ => by decide⟩
  · rw [if_neg h1]
    refine ⟨fun h => ?_, fun h => absurd h h1⟩
    by_cases h2 : x = y
    · rw [if_pos h2] at h; exact absurd h (by decide)
    · rw [if_neg h2] at h; exact absurd h (by decide)
theorem lg_le0 {x y : Int64} : lg_cmp x y ≤ 0 ↔ x ≤ y := by
  rw [← Int32.not_lt, lg_gt0, Int64.not_lt]
theorem isIn_eq (x : Int64) {f : Nat} (hf : f < 64) : f_LR_isIn x (nI f) = if bit x f then 1 else 0 := by
  unfold f_LR_isIn
  rw [wb_cu f hf]
  have h := ts_bit (w := x) (s := UInt64.ofNat f) hf (by rw [UInt64.toNat_ofNat']; omega)
  by_cases hb : bit x f = true
  · rw [if_pos hb, if_neg]
    rw [lg_eq0, h]
    intro h2
    unfold bit at hb
    rw [hb] at h2
    cases h2
  · rw [if_neg hb, if_pos]
    rw [lg_eq0, h]
    unfold bit at hb
    exact Bool.eq_false_iff.mpr hb
theorem only_tp {f : Nat} (hf : f < 64) : (f_LR_only (nI f)).toBitVec = BitVec.twoPow 64 f := by
  unfold f_LR_only
  have h := wb_shl 1 hf
  rw [show (1 : Int64) = lN 1 from rfl, h, wb_tb, Nat.one_mul]
  apply BitVec.eq_of_toNat_eq
  rw [BitVec.toNat_ofNat, BitVec.toNat_twoPow]
theorem bit_only {f g : Nat} (hf : f < 64) : bit (f_LR_only (nI f)) g = decide (g = f) := by
  unfold bit
  rw [only_tp hf, BitVec.getLsbD_twoPow]
  by_cases h : g = f
  · subst h; simp [hf]
  · simp [h, Ne.symm h]
theorem bit_or (x y : Int64) (g : Nat) : bit (x ||| y) g = (bit x g || bit y g) := by
  unfold bit
  rw [Int64.toBitVec_or, BitVec.getLsbD_or]
theorem bit_0 (g : Nat) : bit 0 g = false := by
  unfold bit
  exact BitVec.getLsbD_zero
theorem bit_ext {x y : Int64} (h : ∀ f, f < 64 → bit x f = bit y f) : x = y := by
  apply wb_inj
  apply BitVec.eq_of_getLsbD_eq
  intro i hi
  exact h i hi
theorem bit_big {x : Int64} {f : Nat} (h : 64 ≤ f) : bit x f = false := by
  unfold bit
  exact BitVec.getLsbD_of_ge _ f h
theorem bit_andn (x : Int64) {f : Nat} (hf : f < 64) {g : Nat} (hg : g < 64) : bit (x &&& (f_LR_only (nI f) ^^^ (-1))) g = (bit x g && !decide (g = f)) := by
  unfold bit
  rw [Int64.toBitVec_and, BitVec.getLsbD_and, Int64.toBitVec_xor, BitVec.getLsbD_xor, only_tp hf, BitVec.getLsbD_twoPow]
  have h1 : (-1 : Int64).toBitVec.getLsbD g = true := by
    have : (-1 : Int64).toBitVec = BitVec.allOnes 64 := by decide
    rw [this, BitVec.getLsbD_allOnes]
    simp [hg]
  rw [h1]
  by_cases h : g = f
  · subst h; simp [hf]
  · simp [h, Ne.symm h]
/-- the reference's own test of a bit -/
theorem isOf_bit (x : Int64) {f : Nat} (hf : f < 64) : (lg_cmp ((x >>> ((nI f).toInt64 &&& 63)) &&& 1) 1 = 0) ↔ bit x f = true := by
  rw [lg_eq0]
  have key : ((x >>> ((nI f).toInt64 &&& 63)) &&& 1).toBitVec = (if bit x f then 1#64 else 0#64) := by
    apply BitVec.eq_of_getLsbD_eq
    intro i hi
    rw [Int64.toBitVec_and, BitVec.getLsbD_and]
    have h1 : (x >>> ((nI f).toInt64 &&& 63)).toBitVec = x.toBitVec.sshiftRight f := by
      rw [wb_c f hf, Int64.toBitVec_shiftRight, wb_tb]
      rw [wb_sm f hf]
      show BitVec.sshiftRight _ (BitVec.ofNat 64 f).toNat = _
      rw [BitVec.toNat_ofNat, Nat.mod_eq_of_lt (by omega)]
    rw [h1, BitVec.getLsbD_sshiftRight]
    have h2 : (1 : Int64).toBitVec.getLsbD i = decide (i = 0) := by
      have : (1 : Int64).toBitVec = 1#64 := rfl
      rw [this, BitVec.getLsbD_one]
      simp
    rw [h2]
    by_cases h0 : i = 0
    · subst h0
      simp only [Nat.add_zero]
      rw [if_pos hf]
      by_cases hb : bit x f = true
      · rw [if_pos hb]; unfold bit at hb; rw [hb]; simp
      · rw [if_neg hb]; unfold bit at hb; rw [Bool.eq_false_iff.mpr hb]; simp
    · have : decide (i = 0) = false := by simp [h0]
      rw [this, Bool.and_false]
      by_cases hb : bit x f = true
      · rw [if_pos hb, BitVec.getLsbD_one]; simp [h0]
      · rw [if_neg hb]; simp
  constructor
  · intro h
    rw [h] at key
    by_cases hb : bit x f = true
    · exact hb
    · rw [if_neg hb] at key
      exact absurd key (by decide)
  · intro hb
    rw [if_pos hb] at key
    exact wb_inj key
theorem G_ok {α : Type} {i : Int32} {n : Nat} {x : Option α} (h1 : 0 ≤ i.toInt) (h2 : i.toInt < (n : Int)) : G i n x = x := if_pos ⟨h1, h2⟩
theorem G_n {α : Type} {k n : Nat} {x : Option α} (h : k < n) (hn : n < 2147483648) : G (nI k) n x = x := G_ok (by rw [nI_toInt (by omega)]; omega) (by rw [nI_toInt (by omega)]; omega)
theorem cl {k : Nat} (h : k < 2147483648) : (nI k).toNatClampNeg = k := nI_clamp h
/-- a loop that counts up to N, with what holds at each turn -/
theorem lp_up {σ τ : Type} (lp : Nat → σ → Nat → Option τ) (I : Nat → σ → Prop) (post : τ → Prop) (N : Nat)
    (hx : ∀ n a, I N a → ∃ r, lp (n + 1) a N = some r ∧ post r) (hs : ∀ n a k, k < N → I k a → ∃ a', I (k + 1) a' ∧ lp (n + 1) a k = lp n a' (k + 1)) :
    ∀ d k n a, k + d = N → d < n → I k a → ∃ r, lp n a k = some r ∧ post r := by
  intro d
  induction d with
  | zero =>
    intro k n a hk hn ha
    obtain ⟨n, rfl⟩ : ∃ m, n = m + 1 := ⟨n - 1, by omega⟩
    have : k = N := by omega
    subst this
    exact hx n a ha
  | succ d ih =>
    intro k n a hk hn ha
    obtain ⟨n, rfl⟩ : ∃ m, n = m + 1 := ⟨n - 1, by omega⟩
    obtain ⟨a', h1, h2⟩ := hs n a k (by omega) ha
    rw [h2]
    exact ih (k + 1) n a' (by omega) (by omega) h1
theorem lp_0 {σ τ : Type} (lp : Nat → σ → Nat → Option τ) (I : Nat → σ → Prop) (post : τ → Prop) (N : Nat) (a : σ) (hN : N < 1000000) (h0 : I 0 a)
    (hx : ∀ n a, I N a → ∃ r, lp (n + 1) a N = some r ∧ post r) (hs : ∀ n a k, k < N → I k a → ∃ a', I (k + 1) a' ∧ lp (n + 1) a k = lp n a' (k + 1)) : ∃ r, lp FU a 0 = some r ∧ post r :=
  lp_up lp I post N hx hs N 0 FU a (by omega) (by unfold FU; omega) h0
/-- a count-up loop that may leave at a turn -/
theorem lp_br {σ τ : Type} (lp : Nat → σ → Nat → Option τ) (I : Nat → σ → Prop) (post : Option τ → Prop) (N : Nat)
    (hx : ∀ n a, I N a → post (lp (n + 1) a N)) (hs : ∀ n a k, k < N → I k a → post (lp (n + 1) a k) ∨ ∃ a', I (k + 1) a' ∧ lp (n + 1) a k = lp n a' (k + 1)) :
    ∀ d k n a, k + d = N → d < n → I k a → post (lp n a k) := by
  intro d
  induction d with
  | zero =>
    intro k n a hk hn ha
    obtain ⟨n, rfl⟩ : ∃ m, n = m + 1 := ⟨n - 1, by omega⟩
    have : k = N := by omega
    subst this
    exact hx n a ha
  | succ d ih =>
    intro k n a hk hn ha
    obtain ⟨n, rfl⟩ : ∃ m, n = m + 1 := ⟨n - 1, by omega⟩
    rcases hs n a k (by omega) ha with h | ⟨a', h1, h2⟩
    · exact h
    · rw [h2]
      exact ih (k + 1) n a' (by omega) (by omega) h1
theorem lp_b0 {σ τ : Type} (lp : Nat → σ → Nat → Option τ) (I : Nat → σ → Prop) (post : Option τ → Prop) (N : Nat) (a : σ) (hN : N < 1000000) (h0 : I 0 a)
    (hx : ∀ n a, I N a → post (lp (n + 1) a N)) (hs : ∀ n a k, k < N → I k a → post (lp (n + 1) a k) ∨ ∃ a', I (k + 1) a' ∧ lp (n + 1) a k = lp n a' (k + 1)) : post (lp FU a 0) :=
  lp_br lp I post N hx hs N 0 FU a (by omega) (by unfold FU; omega) h0
/-! reading a memory behind a write -/
theorem sI_ne {μ : Mem} {q k p : Nat} {x : Int32} (h : p ≠ q) : (sI μ q k x).1 p = μ.1 p := if_neg h
theorem sI_at {μ : Mem} {q k : Nat} {x : Int32} : (sI μ q k x).1 q k = x := by rw [sI_q]; exact pk_us
theorem sI_off {μ : Mem} {q k j : Nat} {x : Int32} (h : j ≠ k) : (sI μ q k x).1 q j = μ.1 q j := by rw [sI_q]; exact pk_un h
theorem sI_2 {μ : Mem} {q k : Nat} {x : Int32} : (sI μ q k x).2 = μ.2 := rfl
theorem sJ_1 {μ : Mem} {q k : Nat} {x : Int64} : (sJ μ q k x).1 = μ.1 := rfl
theorem sJ_ne {μ : Mem} {q k p : Nat} {x : Int64} (h : p ≠ q) : (sJ μ q k x).2 p = μ.2 p := if_neg h
theorem sJ_at {μ : Mem} {q k : Nat} {x : Int64} : (sJ μ q k x).2 q k = x := by rw [sJ_q]; exact pk_uLs
theorem sJ_off {μ : Mem} {q k j : Nat} {x : Int64} (h : j ≠ k) : (sJ μ q k x).2 q j = μ.2 q j := by rw [sJ_q]; exact pk_uLn h
theorem sR_ne {μ : Mem} {q p : Nat} {g : Nat → Int32} (h : p ≠ q) : (sR μ q g).1 p = μ.1 p := if_neg h
theorem sI_get (μ : Mem) (q k p j : Nat) (x : Int32) : (sI μ q k x).1 p j = if p = q ∧ j = k then x else μ.1 p j := by
  by_cases h : p = q
  · subst h
    by_cases h2 : j = k
    · subst h2; rw [sI_at]; simp
    · rw [sI_off h2]; simp [h2]
  · rw [sI_ne h]; simp [h]
theorem sJ_get (μ : Mem) (q k p j : Nat) (x : Int64) : (sJ μ q k x).2 p j = if p = q ∧ j = k then x else μ.2 p j := by
  by_cases h : p = q
  · subst h
    by_cases h2 : j = k
    · subst h2; rw [sJ_at]; simp
    · rw [sJ_off h2]; simp [h2]
  · rw [sJ_ne h]; simp [h]
