/-! WHAT THE FUNCTIONS GIVE: first numbers -/
theorem gB {α β : Type} {g : Prop} [Decidable g] {x : α} {f : α → Option β} {r : Option β} (hg : g) (h : f x = r) : (gd g x).bind f = r := by
  unfold gd; rw [if_pos hg]; exact h
theorem cB {α β : Type} {o : Option α} {v : α} {f : α → Option β} {r : Option β} (ho : o = some v) (h : f v = r) : o.bind f = r := by rw [ho]; exact h
theorem ifT {α : Type} {c : Prop} [Decidable c] {a b : Option α} {r : Option α} (hc : c) (h : a = r) : (if c then a else b) = r := by rw [if_pos hc]; exact h
theorem ifF {α : Type} {c : Prop} [Decidable c] {a b : Option α} {r : Option α} (hc : ¬ c) (h : b = r) : (if c then a else b) = r := by rw [if_neg hc]; exact h
theorem w32_e {z : Int} (h : -2147483648 ≤ z ∧ z < 2147483648) : w32 z = z := w32_id h
theorem w64_e {z : Int} (h : -9223372036854775808 ≤ z ∧ z < 9223372036854775808) : w64 z = z := w64_id h
theorem fu_pos {f : Nat} {n : Nat} (h : n < f) : ∃ g, f = g + 1 ∧ n ≤ g := ⟨f - 1, by omega⟩
theorem tm_e {a b : Int} (h : 0 ≤ a) : Int.tmod a b = a % b := Int.tmod_eq_emod_of_nonneg h
theorem td_e {a b : Int} (h : 0 ≤ a) : Int.tdiv a b = a / b := Int.tdiv_eq_ediv_of_nonneg h
/-! ### bits -/
theorem bv_of (n : Nat) : (Int64.ofInt (n : Int)).toBitVec = BitVec.ofNat 64 n := by rw [Int64.toBitVec_ofInt, BitVec.ofInt_natCast]
theorem bv_to {x : Int64} {n : Nat} (h : x.toBitVec.toNat = n) (hn : n < 9223372036854775808) : x.toInt = (n : Int) := by
  show x.toBitVec.toInt = _
  rw [BitVec.toInt_eq_toNat_of_lt (by rw [h]; omega), h]
theorem andL_n {n m : Nat} (hn : n < 9223372036854775808) (hm : m < 9223372036854775808) : andL n m = ((n &&& m : Nat) : Int) := by
  unfold andL
  refine bv_to ?_ (Nat.lt_of_le_of_lt Nat.and_le_left hn)
  rw [Int64.toBitVec_and, bv_of, bv_of, BitVec.toNat_and, BitVec.toNat_ofNat, BitVec.toNat_ofNat, Nat.mod_eq_of_lt (by omega), Nat.mod_eq_of_lt (by omega)]
theorem orL_n {n m : Nat} (hn : n < 9223372036854775808) (hm : m < 9223372036854775808) : orL n m = ((n ||| m : Nat) : Int) := by
  unfold orL
  refine bv_to ?_ (Nat.or_lt_two_pow (n := 63) hn hm)
  rw [Int64.toBitVec_or, bv_of, bv_of, BitVec.toNat_or, BitVec.toNat_ofNat, BitVec.toNat_ofNat, Nat.mod_eq_of_lt (by omega), Nat.mod_eq_of_lt (by omega)]
theorem andL_not {n m : Nat} (hn : n < 9223372036854775808) (hm : m < 9223372036854775808) : andL n (xorL m (-1)) = ((n &&& (m ^^^ 18446744073709551615) : Nat) : Int) := by
  have e : Int64.ofInt (xorL m (-1)) = Int64.ofInt (m : Int) ^^^ Int64.ofInt (-1) := by unfold xorL; exact Int64.ofInt_toInt _
  unfold andL
  rw [e]
  refine bv_to ?_ (Nat.lt_of_le_of_lt Nat.and_le_left hn)
  rw [Int64.toBitVec_and, Int64.toBitVec_xor, bv_of, bv_of, BitVec.toNat_and, BitVec.toNat_xor, BitVec.toNat_ofNat, BitVec.toNat_ofNat, Nat.mod_eq_of_lt (by omega), Nat.mod_eq_of_lt (by omega)]
  rfl
theorem sh_amt : ∀ b : Nat, b < 64 → (((Int32.ofInt (b : Int)).toInt64 &&& 63).toBitVec.smod 64) = BitVec.ofNat 64 b := by decide +kernel
theorem sh_amtI : ∀ b : Nat, b < 32 → ((Int32.ofInt (b : Int) &&& 31).toBitVec.smod 32) = BitVec.ofNat 32 b := by decide +kernel
theorem shlL_n {n b : Nat} (hb : b < 64) (h : n * 2 ^ b < 9223372036854775808) : shlL n b = ((n * 2 ^ b : Nat) : Int) := by
  have hn : n < 9223372036854775808 := Nat.lt_of_le_of_lt (Nat.le_mul_of_pos_right n (Nat.two_pow_pos b)) h
  unfold shlL
  refine bv_to ?_ h
  rw [Int64.toBitVec_shiftLeft, bv_of, sh_amt b hb, BitVec.shiftLeft_eq', BitVec.toNat_shiftLeft, BitVec.toNat_ofNat, BitVec.toNat_ofNat, Nat.mod_eq_of_lt (a := n) (by omega), Nat.mod_eq_of_lt (a := b) (by omega), Nat.shiftLeft_eq, Nat.mod_eq_of_lt (by omega)]
theorem shrL_n {n b : Nat} (hb : b < 64) (hn : n < 9223372036854775808) : shrL n b = ((n / 2 ^ b : Nat) : Int) := by
  unfold shrL
  refine bv_to ?_ (Nat.lt_of_le_of_lt (Nat.div_le_self n _) hn)
  have hm : (BitVec.ofNat 64 n).msb = false := by
    rw [BitVec.msb_eq_false_iff_two_mul_lt, BitVec.toNat_ofNat, Nat.mod_eq_of_lt (by omega)]; omega
  rw [Int64.toBitVec_shiftRight, bv_of, sh_amt b hb, BitVec.sshiftRight_eq', BitVec.sshiftRight_eq_of_msb_false hm, BitVec.toNat_ushiftRight, BitVec.toNat_ofNat, BitVec.toNat_ofNat, Nat.mod_eq_of_lt (a := n) (by omega), Nat.mod_eq_of_lt (a := b) (by omega), Nat.shiftRight_eq_div_pow]
theorem andL_1 {x : Int} (h : 0 ≤ x ∧ x < 9223372036854775808) : andL x 1 = x % 2 := by
  obtain ⟨n, rfl⟩ := Int.eq_ofNat_of_zero_le h.1
  have := andL_n (n := n) (m := 1) (by omega) (by omega)
  rw [show ((1 : Nat) : Int) = 1 from rfl] at this
  rw [this, Nat.and_one_is_mod]
  omega
theorem shrL_1 {x : Int} (h : 0 ≤ x ∧ x < 9223372036854775808) : shrL x 1 = x / 2 := by
  obtain ⟨n, rfl⟩ := Int.eq_ofNat_of_zero_le h.1
  have := shrL_n (n := n) (b := 1) (by omega) (by omega)
  rw [show ((1 : Nat) : Int) = 1 from rfl] at this
  rw [this]
  simp
/-! ### sums -/
theorem mul_bd {a b : Int} (ha : 0 ≤ a ∧ a < 2147483648) (hb : 0 ≤ b ∧ b < 2147483648) : 0 ≤ a * b ∧ a * b < 4611686018427387904 := by
  refine ⟨Int.mul_nonneg ha.1 hb.1, ?_⟩
  have h1 : a * b ≤ 2147483647 * b := Int.mul_le_mul_of_nonneg_right (by omega) hb.1
  omega
theorem mod_bd {a m : Int} (hm : 0 < m) : 0 ≤ a % m ∧ a % m < m := ⟨Int.emod_nonneg _ (by omega), Int.emod_lt_of_pos _ hm⟩
/-- a to the k-th, less the m's -/
def pwS (a k m : Int) : Int := a ^ k.toNat % m
theorem pwS_bd {a k m : Int} (hm : 0 < m) : 0 ≤ pwS a k m ∧ pwS a k m < m := mod_bd hm
def MC (m a b : Int) : Prop := a % m = b % m
theorem MC.rf {m a : Int} : MC m a a := rfl
theorem MC.sy {m a b : Int} (h : MC m a b) : MC m b a := Eq.symm h
theorem MC.tr {m a b c : Int} (h : MC m a b) (h2 : MC m b c) : MC m a c := Eq.trans h h2
theorem MC.md {m a : Int} : MC m (a % m) a := Int.emod_emod_of_dvd a (Int.dvd_refl m)
theorem MC.mul {m a b c d : Int} (h1 : MC m a b) (h2 : MC m c d) : MC m (a * c) (b * d) := by
  unfold MC at *
  rw [Int.mul_emod, h1, h2, ← Int.mul_emod]
theorem MC.add {m a b c d : Int} (h1 : MC m a b) (h2 : MC m c d) : MC m (a + c) (b + d) := by
  unfold MC at *
  rw [Int.add_emod, h1, h2, ← Int.add_emod]
theorem MC.sub {m a b c d : Int} (h1 : MC m a b) (h2 : MC m c d) : MC m (a - c) (b - d) := by
  unfold MC at *
  rw [Int.sub_emod, h1, h2, ← Int.sub_emod]
theorem MC.pow {m a b : Int} (h : MC m a b) (k : Nat) : MC m (a ^ k) (b ^ k) := by
  induction k with
  | zero => rw [Int.pow_zero, Int.pow_zero]; exact rfl
  | succ k ih => rw [Int.pow_succ, Int.pow_succ]; exact ih.mul h
theorem sq_pow (s : Int) (j : Nat) : (s * s) ^ j = s ^ (2 * j) := by
  induction j with
  | zero => rw [Int.pow_zero, Nat.mul_zero, Int.pow_zero]
  | succ j ih => rw [Int.pow_succ, ih, show 2 * (j + 1) = 2 * j + 1 + 1 by omega, Int.pow_succ, Int.pow_succ, Int.mul_assoc]
theorem pw_even {m r s : Int} {k : Int} (h0 : 0 ≤ k) (h : k % 2 = 0) : MC m (r * (s * s % m) ^ (k / 2).toNat) (r * s ^ k.toNat) := by
  have e : k.toNat = 2 * (k / 2).toNat := by omega
  have h1 : MC m ((s * s % m) ^ (k / 2).toNat) ((s * s) ^ (k / 2).toNat) := MC.md.pow _
  rw [sq_pow, ← e] at h1
  exact MC.rf.mul h1
theorem pw_odd {m r s : Int} {k : Int} (h0 : 0 ≤ k) (h : k % 2 = 1) : MC m ((r * s % m) * (s * s % m) ^ (k / 2).toNat) (r * s ^ k.toNat) := by
  have e : k.toNat = 2 * (k / 2).toNat + 1 := by omega
  have h1 : MC m ((s * s % m) ^ (k / 2).toNat) ((s * s) ^ (k / 2).toNat) := MC.md.pow _
  rw [sq_pow] at h1
  have h2 := (MC.md (m := m) (a := r * s)).mul h1
  rw [Int.mul_assoc, Int.mul_comm s (s ^ (2 * (k / 2).toNat)), ← Int.pow_succ, show (2 * (k / 2).toNat).succ = k.toNat from e.symm] at h2
  exact h2
theorem pl_loop {m : Int} (hm : 0 < m ∧ m < 2147483648) : ∀ (n f : Nat) (k r s : Int), 0 ≤ k → k < 4611686018427387904 → k < 2 ^ n → n < f → 0 ≤ r ∧ r < m → 0 ≤ s ∧ s < m → Arithmetic_powerLeft_24 f m r s k = some (r * s ^ k.toNat % m) := by
  intro n
  induction n with
  | zero =>
    intro f k r s h0 h1 hk hf hr hs
    obtain ⟨f, rfl, -⟩ := fu_pos hf
    unfold Arithmetic_powerLeft_24
    have : k = 0 := by simp at hk; omega
    subst this
    refine ifF (by omega) ?_
    rw [show (0 : Int).toNat = 0 from rfl, Int.pow_zero, Int.mul_one, Int.emod_eq_of_lt hr.1 hr.2]
  | succ n ih =>
    intro f k r s h0 h1 hk hf hr hs
    obtain ⟨f, rfl, hf⟩ := fu_pos hf
    unfold Arithmetic_powerLeft_24
    by_cases hz : 0 < k
    · refine ifT (by omega) ?_
      rw [andL_1 ⟨h0, by omega⟩, shrL_1 ⟨h0, by omega⟩]
      have hk2 : k / 2 < 2 ^ n := by rw [Int.pow_succ] at hk; omega
      have b1 := mul_bd (a := r) (b := s) ⟨hr.1, by omega⟩ ⟨hs.1, by omega⟩
      have b2 := mul_bd (a := s) (b := s) ⟨hs.1, by omega⟩ ⟨hs.1, by omega⟩
      rw [w64_e (z := r * s) (by omega), w64_e (z := s * s) (by omega), tm_e b1.1, tm_e b2.1]
      by_cases ho : k % 2 = 1
      · refine ifT (by omega) ?_
        refine gB (by omega) ?_
        refine gB (by omega) ?_
        rw [ih f (k / 2) _ _ (by omega) (by omega) hk2 (by omega) (mod_bd hm.1) (mod_bd hm.1)]
        exact congrArg some (pw_odd h0 ho)
      · refine ifF (by omega) ?_
        refine gB (by omega) ?_
        rw [ih f (k / 2) _ _ (by omega) (by omega) hk2 (by omega) hr (mod_bd hm.1)]
        exact congrArg some (pw_even h0 (by omega))
    · refine ifF (by omega) ?_
      have : k = 0 := by omega
      subst this
      rw [show (0 : Int).toNat = 0 from rfl, Int.pow_zero, Int.mul_one, Int.emod_eq_of_lt hr.1 hr.2]
theorem fu_big {n : Nat} (h : n < 4294967296) : n < FU := h
/-- powerLeft -/
theorem s_powerLeft {a k m : Int} (ha : 0 ≤ a) (hk : 0 ≤ k ∧ k < 4294967296) (hm : 0 < m ∧ m < 2147483648) : Arithmetic_powerLeft a k m = some (pwS a k m) := by
  unfold Arithmetic_powerLeft
  refine ifF (by omega) ?_
  rw [tm_e (by omega), tm_e ha]
  refine gB (by omega) ?_
  refine gB (by omega) ?_
  rw [pl_loop hm 32 FU k _ _ hk.1 (by omega) (by omega) (fu_big (by omega)) (mod_bd hm.1) (mod_bd hm.1)]
  unfold pwS
  have h1 : MC m (1 % m * (a % m) ^ k.toNat) (1 * a ^ k.toNat) := MC.md.mul (MC.md.pow _)
  rw [Int.one_mul] at h1
  exact congrArg some h1
theorem rp_loop {m : Int} (hm : 0 < m ∧ m < 2147483648) : ∀ (n f : Nat) (k r s : Int), 0 ≤ k → k < 4611686018427387904 → k < 2 ^ n → n < f → 0 ≤ r ∧ r < m → 0 ≤ s ∧ s < m → R_powerOf_15 f m s r k = some (r * s ^ k.toNat % m) := by
  intro n
  induction n with
  | zero =>
    intro f k r s h0 h1 hk hf hr hs
    obtain ⟨f, rfl, -⟩ := fu_pos hf
    unfold R_powerOf_15
    have : k = 0 := by simp at hk; omega
    subst this
    refine ifF (by omega) ?_
    rw [show (0 : Int).toNat = 0 from rfl, Int.pow_zero, Int.mul_one, Int.emod_eq_of_lt hr.1 hr.2]
  | succ n ih =>
    intro f k r s h0 h1 hk hf hr hs
    obtain ⟨f, rfl, hf⟩ := fu_pos hf
    unfold R_powerOf_15
    by_cases hz : 0 < k
    · refine ifT (by omega) ?_
      rw [andL_1 ⟨h0, by omega⟩, shrL_1 ⟨h0, by omega⟩]
      have hk2 : k / 2 < 2 ^ n := by rw [Int.pow_succ] at hk; omega
      have b1 := mul_bd (a := r) (b := s) ⟨hr.1, by omega⟩ ⟨hs.1, by omega⟩
      have b2 := mul_bd (a := s) (b := s) ⟨hs.1, by omega⟩ ⟨hs.1, by omega⟩
      rw [w64_e (z := r * s) (by omega), w64_e (z := s * s) (by omega), tm_e b1.1, tm_e b2.1]
      by_cases ho : k % 2 = 1
      · refine ifT (by omega) ?_
        refine gB (by omega) ?_
        refine gB (by omega) ?_
        rw [ih f (k / 2) _ _ (by omega) (by omega) hk2 (by omega) (mod_bd hm.1) (mod_bd hm.1)]
        exact congrArg some (pw_odd h0 ho)
      · refine ifF (by omega) ?_
        refine gB (by omega) ?_
        rw [ih f (k / 2) _ _ (by omega) (by omega) hk2 (by omega) hr (mod_bd hm.1)]
        exact congrArg some (pw_even h0 (by omega))
    · refine ifF (by omega) ?_
      have : k = 0 := by omega
      subst this
      rw [show (0 : Int).toNat = 0 from rfl, Int.pow_zero, Int.mul_one, Int.emod_eq_of_lt hr.1 hr.2]
theorem s_powerOf {a k m : Int} (ha : 0 ≤ a) (hk : 0 ≤ k ∧ k < 4294967296) (hm : 0 < m ∧ m < 2147483648) : R_powerOf a k m = some (pwS a k m) := by
  unfold R_powerOf
  rw [tm_e ha, tm_e (a := 1) (by omega)]
  refine gB (by omega) ?_
  refine gB (by omega) ?_
  rw [rp_loop hm 32 FU k _ _ hk.1 (by omega) (by omega) (fu_big (by omega)) (mod_bd hm.1) (mod_bd hm.1)]
  unfold pwS
  have h1 : MC m (1 % m * (a % m) ^ k.toNat) (1 * a ^ k.toNat) := MC.md.mul (MC.md.pow _)
  rw [Int.one_mul] at h1
  exact congrArg some h1
