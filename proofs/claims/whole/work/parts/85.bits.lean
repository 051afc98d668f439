/-! ===== Long.bitCount counts bits ===== -/
def jb1 (x : Int64) : Int64 := x - ((x.toUInt64 >>> ((1 : Int32).toInt64.toUInt64 &&& Int64.toUInt64 63)).toInt64 &&& 6148914691236517205)
def jb2 (x : Int64) : Int64 := (x &&& 3689348814741910323) + ((x.toUInt64 >>> ((2 : Int32).toInt64.toUInt64 &&& Int64.toUInt64 63)).toInt64 &&& 3689348814741910323)
def jb3 (x : Int64) : Int64 := (x + (x.toUInt64 >>> ((4 : Int32).toInt64.toUInt64 &&& Int64.toUInt64 63)).toInt64) &&& 1085102592571150095
def jb4 (x : Int64) : Int64 := x + (x.toUInt64 >>> ((8 : Int32).toInt64.toUInt64 &&& Int64.toUInt64 63)).toInt64
def jb5 (x : Int64) : Int64 := x + (x.toUInt64 >>> ((16 : Int32).toInt64.toUInt64 &&& Int64.toUInt64 63)).toInt64
def jb6 (x : Int64) : Int64 := x + (x.toUInt64 >>> ((32 : Int32).toInt64.toUInt64 &&& Int64.toUInt64 63)).toInt64
theorem jb_eq (x : Int64) : f_JL_bitCount x = ((jb6 (jb5 (jb4 (jb3 (jb2 (jb1 x)))))).toInt32 &&& 127) := rfl
def bmk (c : Nat) : Nat → Nat
  | 0 => 0
  | k + 1 => 256 * bmk c k + c
def bs1 (k n : Nat) : Nat := n - ((n / 2) &&& bmk 85 k)
def bs2 (k n : Nat) : Nat := (n &&& bmk 51 k) + ((n / 4) &&& bmk 51 k)
def bs3 (k n : Nat) : Nat := (n + n / 16) &&& bmk 15 k
def bb1 (r : Nat) : Nat := r - ((r / 2) &&& 85)
def bb2 (r : Nat) : Nat := (r &&& 51) + ((r / 4) &&& 51)
def bb3 (r : Nat) : Nat := (r + r / 16) &&& 15
def bpc (r : Nat) : Nat := bb3 (bb2 (bb1 r))
theorem and_split {a b c d : Nat} (hb : b < 256) (hd : d < 256) : (256 * a + b) &&& (256 * c + d) = 256 * (a &&& c) + (b &&& d) := by
  have h1 : ((256 * a + b) &&& (256 * c + d)) / 2 ^ 8 = a &&& c := by
    rw [Nat.and_div_two_pow]
    congr 1 <;> omega
  have h2 : ((256 * a + b) &&& (256 * c + d)) % 2 ^ 8 = b &&& d := by
    rw [Nat.and_mod_two_pow]
    congr 1 <;> omega
  have h3 := Nat.div_add_mod ((256 * a + b) &&& (256 * c + d)) (2 ^ 8)
  rw [h1, h2] at h3
  rw [← h3]
theorem by_1 : ∀ e, e < 2 → ∀ r, r < 256 → (128 * e + r / 2) &&& 85 = (r / 2) &&& 85 := by decide +kernel
theorem by_2 : ∀ e, e < 4 → ∀ r, r < 256 → (64 * e + r / 4) &&& 51 = (r / 4) &&& 51 := by decide +kernel
theorem by_3 : ∀ r, r < 256 → bb1 r < 256 ∧ bb2 (bb1 r) ≤ 68 ∧ bb2 (bb1 r) % 16 ≤ 4 ∧ bpc r ≤ 8 ∧ bpc r = fb_ct (fun k => r.testBit k) 8 := by decide +kernel
theorem by_4 : ∀ e, e < 5 → ∀ b, b < 69 → (b + 16 * e + b / 16) &&& 15 = bb3 b := by decide +kernel
theorem bs1_s {k q r : Nat} (hr : r < 256) : bs1 (k + 1) (256 * q + r) = 256 * bs1 k q + bb1 r := by
  unfold bs1 bb1
  have e : (256 * q + r) / 2 = 256 * (q / 2) + (128 * (q % 2) + r / 2) := by omega
  rw [e, show bmk 85 (k + 1) = 256 * bmk 85 k + 85 from rfl, and_split (by omega) (by decide), by_1 (q % 2) (Nat.mod_lt q (by decide)) r hr]
  have h1 : (q / 2) &&& bmk 85 k ≤ q / 2 := Nat.and_le_left
  have h2 : (r / 2) &&& 85 ≤ r / 2 := Nat.and_le_left
  omega
theorem bs2_s {k q r : Nat} (hr : r < 256) : bs2 (k + 1) (256 * q + r) = 256 * bs2 k q + bb2 r := by
  unfold bs2 bb2
  have e : (256 * q + r) / 4 = 256 * (q / 4) + (64 * (q % 4) + r / 4) := by omega
  rw [e, show bmk 51 (k + 1) = 256 * bmk 51 k + 51 from rfl, and_split hr (by decide), and_split (by omega) (by decide), by_2 (q % 4) (Nat.mod_lt q (by decide)) r hr]
  omega
theorem bs3_s {k q b : Nat} (hb : b < 69) (hq : q % 16 < 5) : bs3 (k + 1) (256 * q + b) = 256 * bs3 k q + bb3 b := by
  unfold bs3
  have e : (256 * q + b) + (256 * q + b) / 16 = 256 * (q + q / 16) + (b + 16 * (q % 16) + b / 16) := by omega
  rw [e, show bmk 15 (k + 1) = 256 * bmk 15 k + 15 from rfl, and_split (by omega) (by decide), by_4 (q % 16) hq b hb]
def bsw (k n : Nat) : Nat := bs3 k (bs2 k (bs1 k n))
theorem bs_low : ∀ k q, q < 256 ^ k → bs2 k (bs1 k q) % 16 < 5
  | 0, q, _ => by
    have : bs2 0 (bs1 0 q) = 0 := by unfold bs2; rw [show bmk 51 0 = 0 from rfl, Nat.and_zero, Nat.and_zero]
    rw [this]; decide
  | k + 1, q, hq => by
    have e : q = 256 * (q / 256) + q % 256 := by omega
    have hr : q % 256 < 256 := Nat.mod_lt q (by decide)
    have h3 := by_3 (q % 256) hr
    rw [e, bs1_s hr, bs2_s h3.1]
    omega
theorem bsw_s {k n : Nat} (hn : n < 256 ^ (k + 1)) : bsw (k + 1) n = 256 * bsw k (n / 256) + bpc (n % 256) := by
  have hr : n % 256 < 256 := Nat.mod_lt n (by decide)
  have h3 := by_3 (n % 256) hr
  have hq : n / 256 < 256 ^ k := Nat.div_lt_of_lt_mul (by rw [Nat.pow_succ, Nat.mul_comm] at hn; exact hn)
  unfold bsw
  have e : n = 256 * (n / 256) + n % 256 := by omega
  have e2 : bs3 (k + 1) (bs2 (k + 1) (bs1 (k + 1) n)) = bs3 (k + 1) (bs2 (k + 1) (bs1 (k + 1) (256 * (n / 256) + n % 256))) := by rw [← e]
  rw [e2, bs1_s hr, bs2_s h3.1, bs3_s (by omega) (bs_low k _ hq)]
  rfl
def bps : Nat → Nat → Nat
  | 0, _ => 0
  | k + 1, n => bpc (n % 256) + bps k (n / 256)
theorem bps_ct : ∀ k n, fb_ct (fun j => n.testBit j) (8 * k) = bps k n
  | 0, _ => rfl
  | k + 1, n => by
    rw [show 8 * (k + 1) = 8 + 8 * k by omega, fb_ct_split]
    show _ = bpc (n % 256) + bps k (n / 256)
    rw [← bps_ct k (n / 256), (by_3 (n % 256) (Nat.mod_lt n (by decide))).2.2.2.2]
    congr 1
    · refine fb_ct_cong (fun j hj => ?_)
      rw [show 256 = 2 ^ 8 from rfl, Nat.testBit_mod_two_pow]
      simp [hj]
    · refine fb_ct_cong (fun j _ => ?_)
      rw [show 256 = 2 ^ 8 from rfl, Nat.testBit_div_two_pow, Nat.add_comm]
theorem bd8 (X y : Nat) (h : y < 256) : (256 * X + y) / 256 = X := by omega
theorem bd16 (X y : Nat) (h : y < 65536) : (65536 * X + y) / 65536 = X := by omega
theorem bd32 (X y : Nat) (h : y < 4294967296) : (4294967296 * X + y) / 4294967296 = X := by omega
theorem bd7 (X y : Nat) (h : y < 128) : (128 * X + y) % 128 = y := by omega
theorem bf_u (a b c d e f g h : Nat) : (256 * (256 * (256 * (256 * (256 * (256 * (256 * (256 * 0 + h) + g) + f) + e) + d) + c) + b) + a) + (256 * (256 * (256 * (256 * (256 * (256 * (256 * 0 + h) + g) + f) + e) + d) + c) + b) = 65536 * (256 * (256 * (256 * (256 * (256 * h + (g + h)) + (f + g)) + (e + f)) + (d + e)) + (c + d)) + (256 * (b + c) + (a + b)) := by omega
theorem bf_v (a b c d e f g h : Nat) : 65536 * (256 * (256 * (256 * (256 * (256 * h + (g + h)) + (f + g)) + (e + f)) + (d + e)) + (c + d)) + (256 * (b + c) + (a + b)) + (256 * (256 * (256 * (256 * (256 * h + (g + h)) + (f + g)) + (e + f)) + (d + e)) + (c + d)) = 4294967296 * (256 * (256 * (256 * h + (g + h)) + (f + g + h)) + (e + f + g + h)) + (256 * (256 * (256 * (d + e + f + g) + (c + d + e + f)) + (b + c + d + e)) + (a + b + c + d)) := by omega
theorem bf_z (a b c d e f g h : Nat) : 4294967296 * (256 * (256 * (256 * h + (g + h)) + (f + g + h)) + (e + f + g + h)) + (256 * (256 * (256 * (d + e + f + g) + (c + d + e + f)) + (b + c + d + e)) + (a + b + c + d)) + (256 * (256 * (256 * h + (g + h)) + (f + g + h)) + (e + f + g + h)) = 128 * (33554432 * (256 * (256 * (256 * h + (g + h)) + (f + g + h)) + (e + f + g + h)) + 2 * (256 * (256 * (d + e + f + g) + (c + d + e + f)) + (b + c + d + e)) + 2 * (256 * (256 * h + (g + h)) + (f + g + h))) + (a + (b + (c + (d + (e + (f + (g + (h + 0)))))))) := by omega
theorem bf_l (a b c d : Nat) (ha : a ≤ 16) (hb : b ≤ 16) : 256 * b + a < 65536 := by omega
theorem bf_m (a b c d : Nat) (ha : a ≤ 32) (hb : b ≤ 32) (hc : c ≤ 32) (hd : d ≤ 32) : 256 * (256 * (256 * d + c) + b) + a < 4294967296 := by omega
theorem bf_s {a b c d e f g h : Nat} (ha : a ≤ 8) (hb : b ≤ 8) (hc : c ≤ 8) (hd : d ≤ 8) (he : e ≤ 8) (hf : f ≤ 8) (hg : g ≤ 8) (hh : h ≤ 8) : a + (b + (c + (d + (e + (f + (g + (h + 0))))))) < 128 := by omega
theorem bfin {a b c d e f g h : Nat} (ha : a ≤ 8) (hb : b ≤ 8) (hc : c ≤ 8) (hd : d ≤ 8) (he : e ≤ 8) (hf : f ≤ 8) (hg : g ≤ 8) (hh : h ≤ 8) (t : Nat) (ht : t = 256 * (256 * (256 * (256 * (256 * (256 * (256 * (256 * 0 + h) + g) + f) + e) + d) + c) + b) + a) : (t + t / 256 + (t + t / 256) / 65536 + (t + t / 256 + (t + t / 256) / 65536) / 4294967296) % 128 = a + (b + (c + (d + (e + (f + (g + (h + 0))))))) := by
  rw [ht, bd8 (256 * (256 * (256 * (256 * (256 * (256 * (256 * 0 + h) + g) + f) + e) + d) + c) + b) a (Nat.lt_of_le_of_lt ha (by decide)), bf_u, bd16 _ _ (bf_l (a + b) (b + c) 0 0 (Nat.add_le_add ha hb) (Nat.add_le_add hb hc)), bf_v, bd32 _ _ (bf_m (a + b + c + d) (b + c + d + e) (c + d + e + f) (d + e + f + g) (Nat.add_le_add (Nat.add_le_add (Nat.add_le_add ha hb) hc) hd) (Nat.add_le_add (Nat.add_le_add (Nat.add_le_add hb hc) hd) he) (Nat.add_le_add (Nat.add_le_add (Nat.add_le_add hc hd) he) hf) (Nat.add_le_add (Nat.add_le_add (Nat.add_le_add hd he) hf) hg)), bf_z, bd7 _ _ (bf_s ha hb hc hd he hf hg hh)]
theorem bf_b {a b c d e f g h : Nat} (ha : a ≤ 8) (hb : b ≤ 8) (hc : c ≤ 8) (hd : d ≤ 8) (he : e ≤ 8) (hf : f ≤ 8) (hg : g ≤ 8) (hh : h ≤ 8) : 256 * (256 * (256 * (256 * (256 * (256 * (256 * (256 * 0 + h) + g) + f) + e) + d) + c) + b) + a ≤ 1152921504606846976 := by omega
theorem bsw_8 {n : Nat} (hn : n < 2 ^ 64) : ((bsw 8 n + bsw 8 n / 256 + (bsw 8 n + bsw 8 n / 256) / 65536) + (bsw 8 n + bsw 8 n / 256 + (bsw 8 n + bsw 8 n / 256) / 65536) / 4294967296) % 128 = fb_ct (fun j => n.testBit j) 64 ∧ bsw 8 n ≤ 1152921504606846976 := by
  have le : ∀ r, bpc (r % 256) ≤ 8 := fun r => (by_3 (r % 256) (Nat.mod_lt r (by decide))).2.2.2.1
  have e0 : bsw 0 (n / 256 / 256 / 256 / 256 / 256 / 256 / 256 / 256) = 0 := by unfold bsw bs3; rw [show bmk 15 0 = 0 from rfl, Nat.and_zero]
  have hs : bsw 8 n = 256 * (256 * (256 * (256 * (256 * (256 * (256 * (256 * 0 + bpc (n / 256 / 256 / 256 / 256 / 256 / 256 / 256 % 256)) + bpc (n / 256 / 256 / 256 / 256 / 256 / 256 % 256)) + bpc (n / 256 / 256 / 256 / 256 / 256 % 256)) + bpc (n / 256 / 256 / 256 / 256 % 256)) + bpc (n / 256 / 256 / 256 % 256)) + bpc (n / 256 / 256 % 256)) + bpc (n / 256 % 256)) + bpc (n % 256) := by
    rw [bsw_s (k := 7) (by omega), bsw_s (k := 6) (by omega), bsw_s (k := 5) (by omega), bsw_s (k := 4) (by omega), bsw_s (k := 3) (by omega), bsw_s (k := 2) (by omega), bsw_s (k := 1) (by omega), bsw_s (k := 0) (by omega), e0]
  have hc : fb_ct (fun j => n.testBit j) 64 = bpc (n % 256) + (bpc (n / 256 % 256) + (bpc (n / 256 / 256 % 256) + (bpc (n / 256 / 256 / 256 % 256) + (bpc (n / 256 / 256 / 256 / 256 % 256) + (bpc (n / 256 / 256 / 256 / 256 / 256 % 256) + (bpc (n / 256 / 256 / 256 / 256 / 256 / 256 % 256) + (bpc (n / 256 / 256 / 256 / 256 / 256 / 256 / 256 % 256) + 0))))))) := bps_ct 8 n
  have l0 := le n
  have l1 := le (n / 256)
  have l2 := le (n / 256 / 256)
  have l3 := le (n / 256 / 256 / 256)
  have l4 := le (n / 256 / 256 / 256 / 256)
  have l5 := le (n / 256 / 256 / 256 / 256 / 256)
  have l6 := le (n / 256 / 256 / 256 / 256 / 256 / 256)
  have l7 := le (n / 256 / 256 / 256 / 256 / 256 / 256 / 256)
  refine ⟨?_, ?_⟩
  · rw [hc]
    exact bfin l0 l1 l2 l3 l4 l5 l6 l7 (bsw 8 n) hs
  · rw [hs]; exact bf_b l0 l1 l2 l3 l4 l5 l6 l7
theorem bitCount_lN {n : Nat} (hn : n < 2 ^ 64) : f_JL_bitCount (lN n) = nI (fb_ct (fun j => n.testBit j) 64) := by
  have s1 : ∀ a, a < 2 ^ 64 → ((lN a).toUInt64 >>> ((1 : Int32).toInt64.toUInt64 &&& Int64.toUInt64 63)).toInt64 = lN (a / 2) := fun a ha => wb_shr (k := 1) ha (by decide)
  have s2 : ∀ a, a < 2 ^ 64 → ((lN a).toUInt64 >>> ((2 : Int32).toInt64.toUInt64 &&& Int64.toUInt64 63)).toInt64 = lN (a / 4) := fun a ha => wb_shr (k := 2) ha (by decide)
  have s4 : ∀ a, a < 2 ^ 64 → ((lN a).toUInt64 >>> ((4 : Int32).toInt64.toUInt64 &&& Int64.toUInt64 63)).toInt64 = lN (a / 16) := fun a ha => wb_shr (k := 4) ha (by decide)
  have s8 : ∀ a, a < 2 ^ 64 → ((lN a).toUInt64 >>> ((8 : Int32).toInt64.toUInt64 &&& Int64.toUInt64 63)).toInt64 = lN (a / 256) := fun a ha => wb_shr (k := 8) ha (by decide)
  have s16 : ∀ a, a < 2 ^ 64 → ((lN a).toUInt64 >>> ((16 : Int32).toInt64.toUInt64 &&& Int64.toUInt64 63)).toInt64 = lN (a / 65536) := fun a ha => wb_shr (k := 16) ha (by decide)
  have s32 : ∀ a, a < 2 ^ 64 → ((lN a).toUInt64 >>> ((32 : Int32).toInt64.toUInt64 &&& Int64.toUInt64 63)).toInt64 = lN (a / 4294967296) := fun a ha => wb_shr (k := 32) ha (by decide)
  have m1 : ∀ a, a < 2 ^ 64 → (lN a &&& 6148914691236517205) = lN (a &&& bmk 85 8) := fun a ha => wb_and (b := 6148914691236517205) ha (by decide)
  have m2 : ∀ a, a < 2 ^ 64 → (lN a &&& 3689348814741910323) = lN (a &&& bmk 51 8) := fun a ha => wb_and (b := 3689348814741910323) ha (by decide)
  have m4 : ∀ a, a < 2 ^ 64 → (lN a &&& 1085102592571150095) = lN (a &&& bmk 15 8) := fun a ha => wb_and (b := 1085102592571150095) ha (by decide)
  have h1 : bs1 8 n < 2 ^ 64 := by unfold bs1; omega
  have k2a : bs1 8 n &&& bmk 51 8 ≤ bmk 51 8 := Nat.and_le_right
  have k2b : bs1 8 n / 4 &&& bmk 51 8 ≤ bmk 51 8 := Nat.and_le_right
  have v51 : bmk 51 8 = 3689348814741910323 := by decide
  have h2 : bs2 8 (bs1 8 n) ≤ 7378697629483820646 := by unfold bs2; omega
  have e1 : jb1 (lN n) = lN (bs1 8 n) := by
    unfold jb1 bs1
    rw [s1 n hn, m1 _ (by omega), lN_sub]
    exact Nat.le_trans Nat.and_le_left (by omega)
  have e2 : jb2 (lN (bs1 8 n)) = lN (bs2 8 (bs1 8 n)) := by
    unfold jb2
    rw [s2 _ h1, m2 _ h1, m2 _ (by omega), lN_add]
    rfl
  have e3 : jb3 (lN (bs2 8 (bs1 8 n))) = lN (bsw 8 n) := by
    unfold jb3
    rw [s4 _ (by omega), lN_add, m4 _ (by omega)]
    rfl
  obtain ⟨r1, r2⟩ := bsw_8 hn
  have e4 : jb4 (lN (bsw 8 n)) = lN (bsw 8 n + bsw 8 n / 256) := by
    unfold jb4
    rw [s8 _ (by omega), lN_add]
  have e5 : jb5 (lN (bsw 8 n + bsw 8 n / 256)) = lN (bsw 8 n + bsw 8 n / 256 + (bsw 8 n + bsw 8 n / 256) / 65536) := by
    unfold jb5
    rw [s16 _ (by omega), lN_add]
  have e6 : jb6 (lN (bsw 8 n + bsw 8 n / 256 + (bsw 8 n + bsw 8 n / 256) / 65536)) = lN (bsw 8 n + bsw 8 n / 256 + (bsw 8 n + bsw 8 n / 256) / 65536 + (bsw 8 n + bsw 8 n / 256 + (bsw 8 n + bsw 8 n / 256) / 65536) / 4294967296) := by
    unfold jb6
    rw [s32 _ (by omega), lN_add]
  rw [jb_eq, e1, e2, e3, e4, e5, e6, lN_i, show (127 : Int32) = nI (2 ^ 7 - 1) from rfl, fa_mask, show 2 ^ 7 = 128 from rfl, r1]
theorem bitCount_eq (x : Int64) : f_JL_bitCount x = nI (fb_ct (bit x) 64) := by
  obtain ⟨n, hn, rfl⟩ := wb_of x
  rw [bitCount_lN hn]
  congr 1
  refine fb_ct_cong (fun k hk => ?_)
  unfold bit
  rw [wb_tb, BitVec.getLsbD_ofNat]
  simp [hk]
