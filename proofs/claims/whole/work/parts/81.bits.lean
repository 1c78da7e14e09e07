/-! the bits of a word are counted -/
theorem ushrL_n {n b : Nat} (hb : b < 64) (hn : n < 9223372036854775808) : ushrL n b = ((n / 2 ^ b : Nat) : Int) := by
  have am : ∀ b : Nat, b < 64 → ((Int32.ofInt (b : Int)).toInt64.toUInt64 &&& Int64.toUInt64 63).toBitVec % 64 = BitVec.ofNat 64 b := by decide +kernel
  unfold ushrL
  refine bv_to ?_ (Nat.lt_of_le_of_lt (Nat.div_le_self n _) hn)
  rw [UInt64.toBitVec_toInt64, UInt64.toBitVec_shiftRight, am b hb, BitVec.ushiftRight_eq', BitVec.toNat_ushiftRight, BitVec.toNat_ofNat, Nat.mod_eq_of_lt (a := b) (by omega)]
  show (Int64.ofInt (n : Int)).toBitVec.toNat >>> b = _
  rw [bv_of, BitVec.toNat_ofNat, Nat.mod_eq_of_lt (by omega), Nat.shiftRight_eq_div_pow]
theorem cat_and {a c x y : Nat} (ha : a < 256) (hc : c < 256) : (a + 256 * x) &&& (c + 256 * y) = (a &&& c) + 256 * (x &&& y) := by
  refine Nat.eq_of_testBit_eq fun i => ?_
  have ac : a &&& c < 2 ^ 8 := Nat.lt_of_le_of_lt Nat.and_le_left ha
  rw [Nat.testBit_and, Nat.add_comm a, Nat.add_comm c, Nat.add_comm (a &&& c), show 256 = 2 ^ 8 from rfl, Nat.testBit_two_pow_mul_add _ ha, Nat.testBit_two_pow_mul_add _ hc, Nat.testBit_two_pow_mul_add _ ac]
  by_cases q : i < 8
  · rw [if_pos q, if_pos q, if_pos q, Nat.testBit_and]
  · rw [if_neg q, if_neg q, if_neg q, Nat.testBit_and]
def mkB (c : Nat) : Nat → Nat
  | 0 => 0
  | k + 1 => c + 256 * mkB c k
def sw1 (k n : Nat) : Nat := n - ((n / 2) &&& mkB 85 k)
def sw2 (k n : Nat) : Nat := (n &&& mkB 51 k) + ((n / 4) &&& mkB 51 k)
def sw3 (k n : Nat) : Nat := (n + n / 16) &&& mkB 15 k
/-- how many of the bits from i on, k of them, are set -/
def bcS (n : Nat) : Nat → Nat → Nat
  | 0, _ => 0
  | k + 1, i => (if n.testBit i then 1 else 0) + bcS n k (i + 1)
def vaB : Nat → Nat → Nat
  | 0, _ => 0
  | k + 1, n => bcS (n % 256) 8 0 + 256 * vaB k (n / 256)
def s1B (r : Nat) : Nat := r - ((r / 2) &&& 85)
def s2B (r : Nat) : Nat := (r &&& 51) + ((r / 4) &&& 51)
theorem sw_a : ∀ r : Nat, r < 256 → ∀ e : Nat, e < 2 → (r / 2 + 128 * e) &&& 85 = (r / 2) &&& 85 := by decide +kernel
theorem sw_b : ∀ r : Nat, r < 256 → ∀ e : Nat, e < 4 → (r / 4 + 64 * e) &&& 51 = (r / 4) &&& 51 := by decide +kernel
theorem sw_c : ∀ r : Nat, r < 69 → ∀ e : Nat, e < 5 → (r + r / 16 + 16 * e) &&& 15 = (r + r / 16) &&& 15 := by decide +kernel
theorem sw_d : ∀ r : Nat, r < 256 → s1B r < 256 ∧ s2B (s1B r) < 69 ∧ s2B (s1B r) % 16 < 5 ∧ (s2B (s1B r) + s2B (s1B r) / 16) &&& 15 = bcS r 8 0 := by decide +kernel
theorem sw1_s {k r q : Nat} (hr : r < 256) : sw1 (k + 1) (r + 256 * q) = s1B r + 256 * sw1 k q := by
  unfold sw1 s1B
  rw [show mkB 85 (k + 1) = 85 + 256 * mkB 85 k from rfl, show (r + 256 * q) / 2 = (r / 2 + 128 * (q % 2)) + 256 * (q / 2) by omega, cat_and (by omega) (by omega), sw_a r hr _ (by omega)]
  have a : (r / 2) &&& 85 ≤ r / 2 := Nat.and_le_left
  have b : (q / 2) &&& mkB 85 k ≤ q / 2 := Nat.and_le_left
  omega
theorem sw2_s {k r q : Nat} (hr : r < 256) : sw2 (k + 1) (r + 256 * q) = s2B r + 256 * sw2 k q := by
  unfold sw2 s2B
  rw [show mkB 51 (k + 1) = 51 + 256 * mkB 51 k from rfl, show (r + 256 * q) / 4 = (r / 4 + 64 * (q % 4)) + 256 * (q / 4) by omega, cat_and hr (by omega), cat_and (by omega) (by omega), sw_b r hr _ (by omega)]
  omega
theorem sw3_s {k r q : Nat} (hr : r < 69) (hq : q % 16 < 5) : sw3 (k + 1) (r + 256 * q) = ((r + r / 16) &&& 15) + 256 * sw3 k q := by
  unfold sw3
  rw [show mkB 15 (k + 1) = 15 + 256 * mkB 15 k from rfl, show r + 256 * q + (r + 256 * q) / 16 = (r + r / 16 + 16 * (q % 16)) + 256 * (q + q / 16) by omega, cat_and (by omega) (by omega), sw_c r hr _ hq]
theorem sw_all : ∀ k n : Nat, n < 256 ^ k → sw3 k (sw2 k (sw1 k n)) = vaB k n ∧ sw2 k (sw1 k n) % 16 < 5 := by
  intro k
  induction k with
  | zero =>
    intro n hn
    have : n = 0 := by omega
    subst this
    decide
  | succ k ih =>
    intro n hn
    have hr : n % 256 < 256 := Nat.mod_lt _ (by omega)
    obtain ⟨d1, d2, d3, d4⟩ := sw_d _ hr
    obtain ⟨i1, i2⟩ := ih (n / 256) (by rw [Nat.pow_succ] at hn; omega)
    have e : n = n % 256 + 256 * (n / 256) := by omega
    have e2 : sw2 (k + 1) (sw1 (k + 1) n) = s2B (s1B (n % 256)) + 256 * sw2 k (sw1 k (n / 256)) := by
      conv => lhs; rw [e]
      rw [sw1_s hr, sw2_s d1]
    rw [e2]
    refine ⟨?_, by omega⟩
    rw [sw3_s d2 i2, d4, i1]
    rfl
theorem bcS_le (n : Nat) : ∀ k i, bcS n k i ≤ k
  | 0, _ => Nat.le_refl _
  | k + 1, i => by
    have := bcS_le n k (i + 1)
    unfold bcS
    split <;> omega
theorem bcS_add (n : Nat) : ∀ k l i, bcS n (k + l) i = bcS n k i + bcS n l (i + k)
  | 0, l, i => by rw [Nat.zero_add]; exact (Nat.zero_add _).symm
  | k + 1, l, i => by
    rw [show k + 1 + l = (k + l) + 1 by omega]
    show _ + bcS n (k + l) (i + 1) = _ + bcS n k (i + 1) + _
    rw [bcS_add n k l (i + 1), show i + 1 + k = i + (k + 1) by omega]
    omega
theorem bcS_g {n m : Nat} : ∀ {k i j : Nat}, (∀ t, t < k → n.testBit (i + t) = m.testBit (j + t)) → bcS n k i = bcS m k j
  | 0, _, _, _ => rfl
  | k + 1, i, j, h => by
    have h0 := h 0 (by omega)
    rw [Nat.add_zero, Nat.add_zero] at h0
    show (if n.testBit i then 1 else 0) + bcS n k (i + 1) = (if m.testBit j then 1 else 0) + bcS m k (j + 1)
    rw [h0, bcS_g (n := n) (m := m) (k := k) (i := i + 1) (j := j + 1) fun t ht => by rw [show i + 1 + t = i + (t + 1) by omega, show j + 1 + t = j + (t + 1) by omega]; exact h (t + 1) (by omega)]
theorem va_sum : ∀ k n, bcS n (8 * (k + 1)) 0 = bcS (n % 256) 8 0 + bcS (n / 256) (8 * k) 0 := fun k n => by
  rw [show 8 * (k + 1) = 8 + 8 * k by omega, bcS_add]
  congr 1
  · refine bcS_g fun t ht => ?_
    rw [show 256 = 2 ^ 8 from rfl, Nat.testBit_mod_two_pow, decide_eq_true (by omega), Bool.true_and]
  · refine bcS_g fun t ht => ?_
    rw [show 256 = 2 ^ 8 from rfl, Nat.testBit_div_two_pow]
    congr 1
    omega
theorem va_end (n : Nat) (hn : n < 2 ^ 64) : bcS n 64 0 = bcS (n % 256) 8 0 + bcS (n / 256 % 256) 8 0 + bcS (n / 256 / 256 % 256) 8 0 + bcS (n / 256 / 256 / 256 % 256) 8 0 + bcS (n / 256 / 256 / 256 / 256 % 256) 8 0 + bcS (n / 256 / 256 / 256 / 256 / 256 % 256) 8 0 + bcS (n / 256 / 256 / 256 / 256 / 256 / 256 % 256) 8 0 + bcS (n / 256 / 256 / 256 / 256 / 256 / 256 / 256 % 256) 8 0 := by
  have z : ∀ m : Nat, bcS m (8 * 0) 0 = 0 := fun _ => rfl
  rw [show 64 = 8 * (7 + 1) from rfl, va_sum, va_sum 6, va_sum 5, va_sum 4, va_sum 3, va_sum 2, va_sum 1, va_sum 0 (n / 256 / 256 / 256 / 256 / 256 / 256 / 256), z, Nat.add_zero]
  simp only [Nat.add_assoc]
