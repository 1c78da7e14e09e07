/-! sequences; passing -/
def uS (p q : Int) : Nat → Int
  | 0 => 0
  | 1 => 1
  | n + 2 => p * uS p q (n + 1) - q * uS p q n
theorem u_add (p q : Int) (n : Nat) : ∀ m : Nat, uS p q (m + n + 1) = uS p q (m + 1) * uS p q (n + 1) - q * (uS p q m * uS p q n)
  | 0 => by
    have e : uS p q (0 + n + 1) = uS p q (n + 1) := by rw [Nat.zero_add]
    rw [e]
    show _ = 1 * _ - q * (0 * _)
    grind
  | 1 => by
    have e : uS p q (1 + n + 1) = p * uS p q (n + 1) - q * uS p q n := by rw [show 1 + n + 1 = n + 2 by omega]; rfl
    have e2 : uS p q (1 + 1) = p * 1 - q * 0 := rfl
    rw [e, e2]
    show _ = _ - q * (1 * _)
    grind
  | m + 2 => by
    have h1 := u_add p q n (m + 1)
    have h2 := u_add p q n m
    have e : uS p q (m + 2 + n + 1) = p * uS p q (m + 1 + n + 1) - q * uS p q (m + n + 1) := by
      rw [show m + 2 + n + 1 = (m + n + 1) + 2 by omega, show m + 1 + n + 1 = (m + n + 1) + 1 by omega]; rfl
    have e3 : uS p q (m + 2 + 1) = p * uS p q (m + 2) - q * uS p q (m + 1) := rfl
    have e2 : uS p q (m + 2) = p * uS p q (m + 1) - q * uS p q m := rfl
    rw [e, h1, h2, e3]
    have e4 : uS p q (m + 1 + 1) = uS p q (m + 2) := rfl
    rw [e4]
    generalize uS p q (n + 1) = A
    generalize uS p q n = B
    generalize uS p q (m + 1) = C at *
    generalize uS p q m = D at *
    rw [e2]
    grind
theorem u_dbl (p q : Int) (n : Nat) : uS p q (2 * n) = uS p q n * (2 * uS p q (n + 1) - p * uS p q n) := by
  cases n with
  | zero => show (0 : Int) = 0 * _; rw [Int.zero_mul]
  | succ n =>
    have h := u_add p q (n + 1) n
    rw [show 2 * (n + 1) = n + (n + 1) + 1 by omega, h]
    have e : uS p q (n + 1 + 1) = p * uS p q (n + 1) - q * uS p q n := rfl
    rw [e]
    grind
theorem u_dbl1 (p q : Int) (n : Nat) : uS p q (2 * n + 1) = uS p q (n + 1) * uS p q (n + 1) - q * (uS p q n * uS p q n) := by
  have h := u_add p q n n
  rw [show 2 * n + 1 = n + n + 1 by omega, h]
/-- the k-th of the sequence of p and q, less the m's -/
def sqS (p q k m : Int) : Int := uS p q k.toNat % m
theorem mulc_bd {c a m : Int} (hc : 1 ≤ c ∧ c ≤ 99) (ha : 0 ≤ a ∧ a < m) (hm : m ≤ 1000000000) : 0 ≤ c * a ∧ c * a ≤ 99000000000 := by
  refine ⟨Int.mul_nonneg (by omega) ha.1, ?_⟩
  have h1 : c * a ≤ 99 * a := Int.mul_le_mul_of_nonneg_right (by omega) ha.1
  omega
theorem mulm_bd {a b m : Int} (ha : 0 ≤ a ∧ a < m) (hb : 0 ≤ b ∧ b < m) (hm : m ≤ 1000000000) : 0 ≤ a * b ∧ a * b ≤ 1000000000000000000 := by
  refine ⟨Int.mul_nonneg ha.1 hb.1, ?_⟩
  have h1 : a * b ≤ 1000000000 * b := Int.mul_le_mul_of_nonneg_right (by omega) hb.1
  omega
theorem bit_at {k b : Nat} (hk : k < 4294967296) (hb : b < 32) : andL (shrL (k : Int) (b : Int)) 1 = ((k / 2 ^ b % 2 : Nat) : Int) := by
  have h1 : k / 2 ^ b ≤ k := Nat.div_le_self _ _
  rw [shrL_n (by omega) (by omega), andL_1 ⟨Int.natCast_nonneg _, by omega⟩]
  rfl
theorem sl_loop {p q m : Int} {k : Nat} (hp : 1 ≤ p ∧ p ≤ 99) (hq : 1 ≤ q ∧ q ≤ 99) (hm : 0 < m ∧ m ≤ 1000000000) (hk : k < 4294967296) : ∀ (n f : Nat) (x y : Int), n ≤ 32 → n < f → 0 ≤ x ∧ x < m → 0 ≤ y ∧ y < m → MC m x (uS p q (k / 2 ^ n)) → MC m y (uS p q (k / 2 ^ n + 1)) → Arithmetic_sequenceLeft_22 f p q k m x y ((n : Int) - 1) = some (uS p q k % m) := by
  intro n
  induction n with
  | zero =>
    intro f x y hn hf hx hy h1 h2
    obtain ⟨f, rfl, -⟩ := fu_pos hf
    unfold Arithmetic_sequenceLeft_22
    refine ifT (by omega) ?_
    rw [Nat.pow_zero, Nat.div_one] at h1
    unfold MC at h1
    rw [← h1, Int.emod_eq_of_lt hx.1 hx.2]
  | succ n ih =>
    intro f x y hn hf hx hy h1 h2
    obtain ⟨f, rfl, hf⟩ := fu_pos hf
    unfold Arithmetic_sequenceLeft_22
    refine ifF (by omega) ?_
    have c1 := mulc_bd hp hx hm.2
    rw [w64_e (z := 2 * y) (by omega), w64_e (z := p * x) (by omega), w64_e (z := 2 * y - p * x) (by omega)]
    refine cB (s_floorMod (by unfold in64; omega) ⟨hm.1, by omega⟩) ?_
    have b1 := mod_bd (a := 2 * y - p * x) hm.1
    have c2 := mulm_bd hx b1 hm.2
    have c3 := mulm_bd hx hx hm.2
    have c4 := mulm_bd hy hy hm.2
    rw [w64_e (z := x * ((2 * y - p * x) % m)) (by omega), w64_e (z := x * x) (by omega), w64_e (z := y * y) (by omega), tm_e c2.1, tm_e c3.1]
    refine gB (by omega) ?_
    refine gB (by omega) ?_
    have b2 := mod_bd (a := x * ((2 * y - p * x) % m)) hm.1
    have b3 := mod_bd (a := x * x) hm.1
    have c5 := mulc_bd hq b3 hm.2
    rw [w64_e (z := q * (x * x % m)) (by omega), w64_e (z := y * y - q * (x * x % m)) (by omega)]
    refine cB (s_floorMod (by unfold in64; omega) ⟨hm.1, by omega⟩) ?_
    have b4 := mod_bd (a := y * y - q * (x * x % m)) hm.1
    have hv : ((n + 1 : Nat) : Int) - 1 = (n : Int) := by omega
    rw [hv, bit_at hk (by omega)]
    have hdiv : k / 2 ^ n / 2 = k / 2 ^ (n + 1) := by rw [Nat.div_div_eq_div_mul, Nat.pow_succ]
    have T : MC m (x * ((2 * y - p * x) % m) % m) (uS p q (2 * (k / 2 ^ (n + 1)))) := by
      rw [u_dbl]
      exact MC.md.tr (h1.mul (MC.md.tr ((MC.rf.mul h2).sub (MC.rf.mul h1))))
    have A : MC m ((y * y - q * (x * x % m)) % m) (uS p q (2 * (k / 2 ^ (n + 1)) + 1)) := by
      rw [u_dbl1]
      exact MC.md.tr ((h2.mul h2).sub (MC.rf.mul (MC.md.tr (h1.mul h1))))
    by_cases hb : k / 2 ^ n % 2 = 0
    · refine ifT (by omega) ?_
      have e : k / 2 ^ n = 2 * (k / 2 ^ (n + 1)) := by omega
      rw [w32_e (by omega), show (n : Int) + -1 = (n : Int) - 1 by omega]
      exact ih f _ _ (by omega) (by omega) b2 b4 (by rw [e]; exact T) (by rw [e]; exact A)
    · refine ifF (by omega) ?_
      have e : k / 2 ^ n = 2 * (k / 2 ^ (n + 1)) + 1 := by omega
      have c6 := mulc_bd hp b4 hm.2
      have c7 := mulc_bd hq b2 hm.2
      rw [w64_e (z := p * ((y * y - q * (x * x % m)) % m)) (by omega), w64_e (z := q * (x * ((2 * y - p * x) % m) % m)) (by omega), w64_e (by omega)]
      refine cB (s_floorMod (by unfold in64; omega) ⟨hm.1, by omega⟩) ?_
      rw [w32_e (by omega), show (n : Int) + -1 = (n : Int) - 1 by omega]
      refine ih f _ _ (by omega) (by omega) b4 (mod_bd hm.1) (by rw [e]; exact A) ?_
      rw [e]
      show MC m _ (p * uS p q (2 * (k / 2 ^ (n + 1)) + 1) - q * uS p q (2 * (k / 2 ^ (n + 1))))
      exact MC.md.tr ((MC.rf.mul A).sub (MC.rf.mul T))
theorem s_sequenceLeft {p q k m : Int} (hp : 1 ≤ p ∧ p ≤ 99) (hq : 1 ≤ q ∧ q ≤ 99) (hk : 0 ≤ k ∧ k < 4294967296) (hm : 0 < m ∧ m ≤ 1000000000) : Arithmetic_sequenceLeft p q k m = some (sqS p q k m) := by
  obtain ⟨k, rfl⟩ := Int.eq_ofNat_of_zero_le hk.1
  unfold Arithmetic_sequenceLeft sqS
  refine ifF (by omega) ?_
  refine gB (by omega) ?_
  rw [tm_e (by omega), Int.toNat_natCast]
  have h0 : k / 2 ^ 32 = 0 := Nat.div_eq_of_lt (by omega)
  refine sl_loop hp hq hm (by omega) 32 FU 0 (1 % m) (Nat.le_refl _) (fu_big (by omega)) ⟨by omega, hm.1⟩ (mod_bd hm.1) ?_ ?_
  · rw [h0]; exact rfl
  · rw [h0]; exact MC.md
/-! ### passing -/
/-- odd part -/
def odS (n : Nat) : Nat × Nat := if h : n = 0 then (0, 0) else if n % 2 = 0 then ((odS (n / 2)).1, (odS (n / 2)).2 + 1) else (n, 0)
termination_by n
decreasing_by all_goals omega
theorem od_e {n : Nat} (h0 : n ≠ 0) (h : n % 2 = 0) : odS n = ((odS (n / 2)).1, (odS (n / 2)).2 + 1) := by rw [odS, dif_neg h0, if_pos h]
theorem od_o {n : Nat} (h : ¬ n % 2 = 0) : odS n = (n, 0) := by rw [odS, dif_neg (by omega), if_neg h]
/-- whether x, its square and so on come to n less 1 within t squarings (t places looked at) -/
def sqr (n : Int) : Nat → Int → Bool
  | 0, _ => false
  | t + 1, x => decide (x = n - 1) || sqr n t (x * x % n)
/-- whether n passes by a -/
def paS (n a : Int) : Bool := decide (pwS a ((odS (n - 1).toNat).1 : Int) n = 1) || sqr n (odS (n - 1).toNat).2 (pwS a ((odS (n - 1).toNat).1 : Int) n)
def b2i (b : Bool) : Int := if b then 1 else 0
theorem b2i_t : b2i true = 1 := rfl
theorem b2i_f : b2i false = 0 := rfl
theorem od_mul (n : Nat) : (odS n).1 * 2 ^ (odS n).2 = n := by
  induction n using Nat.strongRecOn with
  | ind n ih =>
    by_cases h0 : n = 0
    · subst h0; rw [odS, dif_pos rfl]; simp
    · by_cases h : n % 2 = 0
      · rw [od_e h0 h]
        have := ih (n / 2) (by omega)
        show (odS (n / 2)).1 * 2 ^ ((odS (n / 2)).2 + 1) = n
        rw [Nat.pow_succ, ← Nat.mul_assoc, this]
        omega
      · rw [od_o h]; simp
theorem od_pos {n : Nat} (h : n ≠ 0) : (odS n).1 ≠ 0 := by
  intro q
  have := od_mul n
  rw [q, Nat.zero_mul] at this
  exact h this.symm
theorem od_le (n : Nat) : (odS n).1 ≤ n := by
  have := od_mul n
  have h2 : (odS n).1 * 1 ≤ (odS n).1 * 2 ^ (odS n).2 := Nat.mul_le_mul_left _ (Nat.two_pow_pos _)
  omega
theorem od_lt : ∀ (k n : Nat), n ≠ 0 → n < 2 ^ k → (odS n).2 < k := by
  intro k
  induction k with
  | zero => intro n h0 h; omega
  | succ k ih =>
    intro n h0 h
    by_cases h2 : n % 2 = 0
    · rw [od_e h0 h2]
      have := ih (n / 2) (by omega) (by rw [Nat.pow_succ] at h; omega)
      show (odS (n / 2)).2 + 1 < k + 1
      omega
    · rw [od_o h2]; exact Nat.succ_pos k
theorem pb_odd {n a : Int} : ∀ (k f o : Nat) (tw st : Int), o ≠ 0 → o < 2 ^ k → k < f → k ≤ 31 → 0 ≤ st → st + k ≤ 31 → 0 ≤ tw → tw + k ≤ 31 → Arithmetic_passesBy_9 f n a o tw st = Arithmetic_passesBy_35 n a ((odS o).1 : Int) (tw + ((odS o).2 : Int)) := by
  intro k
  induction k with
  | zero => intro f o tw st h0 h; omega
  | succ k ih =>
    intro f o tw st h0 h hf hk s0 s1 t0 t1
    obtain ⟨f, rfl, hf⟩ := fu_pos hf
    unfold Arithmetic_passesBy_9
    refine ifT (by omega) ?_
    refine gB (by omega) ?_
    have ho : o < 2147483648 := Nat.lt_of_lt_of_le h (Nat.pow_le_pow_right (by omega) (by omega : k + 1 ≤ 31))
    rw [show (2 : Int) = ((2 : Nat) : Int) from rfl, tm_n, td_n]
    by_cases h2 : o % 2 = 0
    · refine ifT (by omega) ?_
      refine gB (by omega) ?_
      rw [w32_e (by omega), w32_e (by omega), w32_e (by omega), ih f (o / 2) (tw + 1) (st + 1) (by omega) (by rw [Nat.pow_succ] at h; omega) (by omega) (by omega) (by omega) (by omega) (by omega) (by omega), od_e h0 h2]
      show Arithmetic_passesBy_35 _ _ _ (tw + 1 + _) = Arithmetic_passesBy_35 _ _ _ (tw + (((odS (o / 2)).2 + 1 : Nat) : Int))
      congr 1
      omega
    · refine ifF (by omega) ?_
      rw [od_o h2]
      congr 1
      omega
theorem pw2 {x n : Int} : pwS x 2 n = x * x % n := by
  unfold pwS
  rw [show (2 : Int).toNat = 1 + 1 from rfl, Int.pow_succ, Int.pow_succ, Int.pow_zero, Int.one_mul]
theorem pb_one {n t x i : Int} : ∀ f : Nat, 1 < f → Arithmetic_passesBy_73 f n t x 1 i = some 1 := by
  intro f hf
  obtain ⟨f, rfl, -⟩ := fu_pos hf
  unfold Arithmetic_passesBy_73
  by_cases h : i < t
  · refine ifT (by omega) ?_
    refine ifF (by omega) ?_
    refine gB (by omega) ?_
    rfl
  · refine ifF (by omega) ?_
    refine gB (by omega) ?_
    rfl
theorem pb_sq {n : Int} (hn : 2 ≤ n ∧ n < 2147483648) : ∀ (k f : Nat) (t x i : Int), 0 ≤ x ∧ x < n → 1 ≤ i → i + k = t → t ≤ 31 → k + 2 < f → Arithmetic_passesBy_73 f n t x 0 i = some (b2i (sqr n k (x * x % n))) := by
  intro k
  induction k with
  | zero =>
    intro f t x i hx hi hk ht hf
    obtain ⟨f, rfl, -⟩ := fu_pos (n := 1) (by omega : 1 < f)
    unfold Arithmetic_passesBy_73
    refine ifF (by omega) ?_
    refine gB (by omega) ?_
    rfl
  | succ k ih =>
    intro f t x i hx hi hk ht hf
    obtain ⟨f, rfl, hf⟩ := fu_pos hf
    unfold Arithmetic_passesBy_73
    refine ifT (by omega) ?_
    refine ifT (by omega) ?_
    refine cB (s_powerLeft hx.1 (by omega) ⟨by omega, hn.2⟩) ?_
    rw [pw2, w32_e (by omega), w32_e (by omega)]
    have hb := mod_bd (a := x * x) (m := n) (by omega)
    by_cases h : x * x % n = n - 1
    · refine ifT (by omega) ?_
      rw [pb_one f (by omega)]
      unfold sqr
      rw [decide_eq_true h]
      rfl
    · refine ifF (by omega) ?_
      rw [ih f t (x * x % n) (i + 1) hb (by omega) (by omega) ht (by omega)]
      conv => rhs; unfold sqr
      rw [decide_eq_false h, Bool.false_or]
theorem s_passesBy {n a : Int} (hn : 3 ≤ n ∧ n < 2147483648) (ho : n % 2 = 1) (ha : 0 ≤ a) : Arithmetic_passesBy n a = some (b2i (paS n a)) := by
  unfold Arithmetic_passesBy
  rw [w32_e (by omega)]
  obtain ⟨m, hm⟩ := Int.eq_ofNat_of_zero_le (show 0 ≤ n - 1 by omega)
  have hm0 : m ≠ 0 := by omega
  have hm2 : m % 2 = 0 := by omega
  rw [hm, pb_odd 31 FU m 0 0 hm0 (by omega) (fu_big (by omega)) (by omega) (by omega) (by omega) (by omega) (by omega)]
  unfold Arithmetic_passesBy_35 paS
  rw [hm, Int.toNat_natCast]
  have l1 := od_le m
  have l2 := od_lt 31 m hm0 (by omega)
  refine cB (s_powerLeft ha ⟨Int.natCast_nonneg _, by omega⟩ ⟨by omega, hn.2⟩) ?_
  generalize hx : pwS a ((odS m).1 : Int) n = x
  have hb : 0 ≤ x ∧ x < n := by rw [← hx]; exact pwS_bd (by omega)
  have ht : ∃ t, (odS m).2 = t + 1 := ⟨(odS (m / 2)).2, by rw [od_e hm0 hm2]⟩
  obtain ⟨t, ht⟩ := ht
  rw [ht]
  by_cases h1 : x = 1
  · refine ifT (by omega) ?_
    rw [pb_one FU (fu_big (by omega)), decide_eq_true h1]
    rfl
  · refine ifF (by omega) ?_
    rw [w32_e (by omega), decide_eq_false h1, Bool.false_or]
    unfold sqr
    by_cases h2 : x = n - 1
    · refine ifT (by omega) ?_
      rw [pb_one FU (fu_big (by omega)), decide_eq_true h2]
      rfl
    · refine ifF (by omega) ?_
      rw [decide_eq_false h2, Bool.false_or]
      exact pb_sq ⟨by omega, hn.2⟩ t FU _ x 1 hb (by omega) (by omega) (by omega) (fu_big (by omega))
theorem dp_sq {n : Int} (hn : 2 ≤ n ∧ n < 2147483648) : ∀ (k f : Nat) (s x : Int), 0 ≤ x ∧ x < n → 1 ≤ s → s * 2 ^ k = n - 1 → k < f → R_doesPass_45 f n s x = some (b2i (sqr n k x)) := by
  intro k
  induction k with
  | zero =>
    intro f s x hx hs hk hf
    obtain ⟨f, rfl, -⟩ := fu_pos hf
    unfold R_doesPass_45
    rw [Int.pow_zero, Int.mul_one] at hk
    rw [w64_e (by omega)]
    refine ifF (by omega) ?_
    rfl
  | succ k ih =>
    intro f s x hx hs hk hf
    obtain ⟨f, rfl, hf⟩ := fu_pos hf
    unfold R_doesPass_45
    rw [Int.pow_succ, Int.mul_comm _ 2, ← Int.mul_assoc] at hk
    have hp : 0 < (2 : Int) ^ k := Int.pow_pos (by omega)
    have h3 : s * 2 * 1 ≤ s * 2 * 2 ^ k := Int.mul_le_mul_of_nonneg_left (by omega) (by omega)
    rw [w64_e (z := n - 1) (by omega)]
    refine ifT (by omega) ?_
    unfold sqr
    by_cases h : x = n - 1
    · refine ifT (by omega) ?_
      rw [decide_eq_true h]
      rfl
    · refine ifF (by omega) ?_
      have b := mul_bd (a := x) (b := x) ⟨hx.1, by omega⟩ ⟨hx.1, by omega⟩
      rw [w64_e (by omega), tm_e b.1, w64_e (by omega), decide_eq_false h, Bool.false_or]
      refine gB (by omega) ?_
      exact ih f (s * 2) (x * x % n) (mod_bd (by omega)) (by omega) hk (by omega)
theorem dp_odd {n a : Int} (hn : 2 ≤ n ∧ n < 2147483648) (ha : 0 ≤ a) : ∀ (k f o : Nat), o ≠ 0 → o < 2 ^ k → k < f → k ≤ 31 → (o : Int) < n → (∃ j : Nat, (o : Int) * 2 ^ j = n - 1) → ∃ j : Nat, j ≤ 31 ∧ ((odS o).1 : Int) * 2 ^ j = n - 1 ∧ R_doesPass_5 f n a o = some (b2i (decide (pwS a ((odS o).1 : Int) n = 1) || sqr n j (pwS a ((odS o).1 : Int) n))) := by
  intro k
  induction k with
  | zero => intro f o h0 h; omega
  | succ k ih =>
    intro f o h0 h hf hk hon hj
    obtain ⟨f, rfl, hf⟩ := fu_pos hf
    unfold R_doesPass_5
    have ho : o < 2147483648 := Nat.lt_of_lt_of_le h (Nat.pow_le_pow_right (by omega) (by omega : k + 1 ≤ 31))
    rw [show (2 : Int) = ((2 : Nat) : Int) from rfl, tm_n, td_n]
    obtain ⟨j, hj⟩ := hj
    by_cases h2 : o % 2 = 0
    · rw [od_e h0 h2]
      obtain ⟨j', g1, g2, g3⟩ := ih f (o / 2) (by omega) (by rw [Nat.pow_succ] at h; omega) (by omega) (by omega) (by omega) ⟨j + 1, by
        rw [Int.pow_succ, Int.mul_comm _ 2, ← Int.mul_assoc, ← hj]
        congr 1
        omega⟩
      refine ⟨j', g1, g2, ?_⟩
      refine gB (by omega) ?_
      refine ifT (by omega) ?_
      refine gB (by omega) ?_
      rw [w64_e (by omega)]
      exact g3
    · rw [od_o h2]
      have hj31 : j ≤ 31 := by
        rcases Nat.lt_or_ge j 32 with q | q
        · omega
        · exfalso
          have h5 : (2 : Int) ^ 32 ≤ 2 ^ j := by
            have := Nat.pow_le_pow_right (n := 2) (by omega) q
            exact_mod_cast this
          have h6 : (1 : Int) * 2 ^ j ≤ (o : Int) * 2 ^ j := Int.mul_le_mul_of_nonneg_right (by omega) (by omega)
          omega
      refine ⟨j, hj31, hj, ?_⟩
      refine gB (by omega) ?_
      refine ifF (by omega) ?_
      refine cB (s_powerOf ha ⟨Int.natCast_nonneg _, by omega⟩ ⟨by omega, hn.2⟩) ?_
      generalize hx : pwS a (o : Int) n = x
      have hb : 0 ≤ x ∧ x < n := by rw [← hx]; exact pwS_bd (by omega)
      by_cases h1 : x = 1
      · refine ifT (by omega) ?_
        rw [decide_eq_true h1]
        rfl
      · refine ifF (by omega) ?_
        rw [decide_eq_false h1, Bool.false_or]
        exact dp_sq hn j FU o x hb (by omega) hj (fu_big (by omega))
theorem s_doesPass {n a : Int} (hn : 3 ≤ n ∧ n < 2147483648) (ha : 0 ≤ a) : R_doesPass n a = some (b2i (paS n a)) := by
  unfold R_doesPass
  rw [w64_e (by omega)]
  obtain ⟨m, hm⟩ := Int.eq_ofNat_of_zero_le (show 0 ≤ n - 1 by omega)
  have hm0 : m ≠ 0 := by omega
  rw [hm]
  obtain ⟨j, hj, h1, h2⟩ := dp_odd (n := n) (a := a) ⟨by omega, hn.2⟩ ha 31 FU m hm0 (by omega) (fu_big (by omega)) (by omega) (by omega) ⟨0, by rw [Int.pow_zero, Int.mul_one, hm]⟩
  rw [h2]
  have e : (odS m).2 = j := by
    have h3 := od_mul m
    rw [hm] at h1
    have h4 : (odS m).1 * 2 ^ j = m := by exact_mod_cast h1
    have h5 : (odS m).1 * 2 ^ (odS m).2 = (odS m).1 * 2 ^ j := by rw [h3, h4]
    have h6 := Nat.eq_of_mul_eq_mul_left (Nat.pos_of_ne_zero (od_pos hm0)) h5
    exact (Nat.pow_right_inj (by omega)).mp h6
  unfold paS
  rw [hm, Int.toNat_natCast, e]
