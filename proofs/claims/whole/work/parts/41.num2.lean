/-! common divisors, signs -/
theorem gcd_step {a b n : Nat} (hb : 0 < b) (hba : b ≤ a) (h : a * b < 2 ^ (n + 1)) : b * (a % b) < 2 ^ n := by
  have h1 : a % b + b ≤ a := by
    have := Nat.mod_add_div a b
    have h2 : 1 ≤ a / b := (Nat.one_le_div_iff hb).mpr hba
    have h3 : b * 1 ≤ b * (a / b) := Nat.mul_le_mul_left b h2
    omega
  have h2 : a % b < b := Nat.mod_lt _ hb
  have h3 : 2 * (a % b) ≤ a := by omega
  have h4 : b * (2 * (a % b)) ≤ b * a := Nat.mul_le_mul_left b h3
  rw [Nat.pow_succ] at h
  have e1 : b * (2 * (a % b)) = 2 * (b * (a % b)) := by rw [Nat.mul_left_comm]
  rw [e1, Nat.mul_comm b a] at h4
  omega
theorem gcd_swap (a b : Nat) : Nat.gcd b (a % b) = Nat.gcd a b := by rw [Nat.gcd_comm a b, Nat.gcd_rec b a, Nat.gcd_comm]
theorem tm_n {a b : Nat} : Int.tmod (a : Int) (b : Int) = ((a % b : Nat) : Int) := by rw [tm_e (Int.natCast_nonneg _)]; rfl
theorem co_loop : ∀ (n f a b : Nat) (st : Int), b ≤ a → a * b < 2 ^ n → n < f → 0 ≤ st → st + n < 200 → Arithmetic_commonOf_9 f a b st = some (Nat.gcd a b : Int) := by
  intro n
  induction n with
  | zero =>
    intro f a b st hba h hf h0 h1
    obtain ⟨f, rfl, -⟩ := fu_pos hf
    have hb : b = 0 := by
      rcases Nat.eq_zero_or_pos b with q | q
      · exact q
      · have := Nat.mul_le_mul (Nat.le_trans q hba) q
        omega
    subst hb
    unfold Arithmetic_commonOf_9
    refine ifT (by omega) ?_
    refine ifT rfl ?_
    rw [Nat.gcd_zero_right]
  | succ n ih =>
    intro f a b st hba h hf h0 h1
    obtain ⟨f, rfl, hf⟩ := fu_pos hf
    unfold Arithmetic_commonOf_9
    refine ifT (by omega) ?_
    by_cases hb : b = 0
    · subst hb
      refine ifT rfl ?_
      rw [Nat.gcd_zero_right]
    · refine ifF (by omega) ?_
      refine gB (by omega) ?_
      rw [tm_n, w32_e (by omega), ih f b (a % b) (st + 1) (Nat.le_of_lt (Nat.mod_lt _ (by omega))) (gcd_step (by omega) hba h) (by omega) (by omega) (by omega), gcd_swap]
theorem mul_b63 {a b : Nat} (ha : a < 9223372036854775808) (hb : b < 9223372036854775808) : a * b < 2 ^ 126 := by
  have h1 : a * b ≤ 9223372036854775807 * 9223372036854775807 := Nat.mul_le_mul (by omega) (by omega)
  omega
/-- the greatest common divisor of numbers not below 0 -/
def gcS (a b : Int) : Int := (Nat.gcd a.toNat b.toNat : Int)
theorem s_commonOf {a b : Int} (ha : 0 ≤ a ∧ a < 9223372036854775808) (hb : 0 ≤ b ∧ b < 9223372036854775808) : Arithmetic_commonOf a b = some (gcS a b) := by
  obtain ⟨a, rfl⟩ := Int.eq_ofNat_of_zero_le ha.1
  obtain ⟨b, rfl⟩ := Int.eq_ofNat_of_zero_le hb.1
  unfold Arithmetic_commonOf gcS
  rw [Int.toNat_natCast, Int.toNat_natCast]
  rcases Nat.lt_or_ge a b with q | q
  · obtain ⟨f, hf, -⟩ := fu_pos (fu_big (n := 200) (by omega))
    rw [hf]
    unfold Arithmetic_commonOf_9
    refine ifT (by omega) ?_
    refine ifF (by omega) ?_
    refine gB (by omega) ?_
    rw [tm_n, w32_e (by omega), Nat.mod_eq_of_lt q, co_loop 126 f b a (0 + 1) (by omega) (mul_b63 (by omega) (by omega)) (by unfold FU at hf; omega) (by omega) (by omega), Nat.gcd_comm]
  · exact co_loop 126 FU a b 0 q (mul_b63 (by omega) (by omega)) (fu_big (by omega)) (by omega) (by omega)
theorem rc_loop : ∀ (n f a b : Nat), b < n → n < f → R_common_6 f a b = some (Nat.gcd a b : Int) := by
  intro n
  induction n with
  | zero => intro f a b h; omega
  | succ n ih =>
    intro f a b h hf
    obtain ⟨f, rfl, hf⟩ := fu_pos hf
    unfold R_common_6
    by_cases hb : b = 0
    · subst hb
      refine ifT rfl ?_
      rw [Nat.gcd_zero_right]
    · refine ifF (by omega) ?_
      refine gB (by omega) ?_
      rw [tm_n, ih f b (a % b) (by have := Nat.mod_lt a (show b > 0 by omega); omega) (by omega), gcd_swap]
theorem rc_loop2 : ∀ (n f a b : Nat), b ≤ a → a * b < 2 ^ n → n < f → R_common_6 f a b = some (Nat.gcd a b : Int) := by
  intro n
  induction n with
  | zero =>
    intro f a b hba h hf
    obtain ⟨f, rfl, -⟩ := fu_pos hf
    have hb : b = 0 := by
      rcases Nat.eq_zero_or_pos b with q | q
      · exact q
      · have := Nat.mul_le_mul (Nat.le_trans q hba) q
        omega
    subst hb
    unfold R_common_6
    refine ifT rfl ?_
    rw [Nat.gcd_zero_right]
  | succ n ih =>
    intro f a b hba h hf
    obtain ⟨f, rfl, hf⟩ := fu_pos hf
    unfold R_common_6
    by_cases hb : b = 0
    · subst hb
      refine ifT rfl ?_
      rw [Nat.gcd_zero_right]
    · refine ifF (by omega) ?_
      refine gB (by omega) ?_
      rw [tm_n, ih f b (a % b) (Nat.le_of_lt (Nat.mod_lt _ (by omega))) (gcd_step (by omega) hba h) (by omega), gcd_swap]
theorem s_common {a b : Int} (ha : 0 ≤ a ∧ a < 9223372036854775808) (hb : 0 ≤ b ∧ b < 9223372036854775808) : R_common a b = some (gcS a b) := by
  obtain ⟨a, rfl⟩ := Int.eq_ofNat_of_zero_le ha.1
  obtain ⟨b, rfl⟩ := Int.eq_ofNat_of_zero_le hb.1
  unfold R_common gcS
  rw [Int.toNat_natCast, Int.toNat_natCast]
  rcases Nat.lt_or_ge a b with q | q
  · obtain ⟨f, hf, -⟩ := fu_pos (fu_big (n := 200) (by omega))
    rw [hf]
    unfold R_common_6
    refine ifF (by omega) ?_
    refine gB (by omega) ?_
    rw [tm_n, Nat.mod_eq_of_lt q, rc_loop2 126 f b a (by omega) (mul_b63 (by omega) (by omega)) (by unfold FU at hf; omega), Nat.gcd_comm]
  · exact rc_loop2 126 FU a b q (mul_b63 (by omega) (by omega)) (fu_big (by omega))
/-! ### signs -/
def jacS (a m : Nat) (s : Int) : Int :=
  if h0 : a = 0 then (if m = 1 then s else 0)
  else if a % 2 = 0 then jacS (a / 2) m (if m % 8 = 3 ∨ m % 8 = 5 then -s else s)
  else jacS (m % a) a (if a % 4 = 3 ∧ m % 4 = 3 then -s else s)
termination_by a
decreasing_by
  · omega
  · exact Nat.mod_lt _ (by omega)
theorem jac_0 (m : Nat) (s : Int) : jacS 0 m s = if m = 1 then s else 0 := by rw [jacS]; rfl
theorem jac_2 {a m : Nat} {s : Int} (h : a ≠ 0) (h2 : a % 2 = 0) : jacS a m s = jacS (a / 2) m (if m % 8 = 3 ∨ m % 8 = 5 then -s else s) := by rw [jacS, dif_neg h, if_pos h2]
theorem jac_1 {a m : Nat} {s : Int} (h2 : ¬ a % 2 = 0) : jacS a m s = jacS (m % a) a (if a % 4 = 3 ∧ m % 4 = 3 then -s else s) := by rw [jacS, dif_neg (by omega), if_neg h2]
def pm1 (s : Int) : Prop := s = 1 ∨ s = -1
theorem pm1_neg {s : Int} (h : pm1 s) : pm1 (-s) := by
  rcases h with rfl | rfl
  · exact Or.inr rfl
  · exact Or.inl rfl
theorem pm1_w {s : Int} (h : pm1 s) : w32 (-s) = -s := by rcases h with rfl | rfl <;> rfl
theorem td_n {a b : Nat} : Int.tdiv (a : Int) (b : Int) = ((a / b : Nat) : Int) := by rw [td_e (Int.natCast_nonneg _)]; rfl
theorem ja_end {k : Int → Int → Int → Int → Option Int} {a m : Nat} {s st : Int} (ha : a % 2 ≠ 0) (hs : pm1 s) : Arithmetic_jacobiOf_105 k a m s st = k ((m % a : Nat) : Int) a (if a % 4 = 3 ∧ m % 4 = 3 then -s else s) (w32 (st + 1)) := by
  have go : ∀ s, Arithmetic_jacobiOf_136 k a m s st = k ((m % a : Nat) : Int) a s (w32 (st + 1)) := by
    intro s
    unfold Arithmetic_jacobiOf_136
    refine gB (by omega) ?_
    rw [tm_n]
  unfold Arithmetic_jacobiOf_105
  refine gB (by omega) ?_
  rw [show (4 : Int) = ((4 : Nat) : Int) from rfl, tm_n, tm_n]
  by_cases h1 : a % 4 = 3
  · refine ifT (by omega) ?_
    refine gB (by omega) ?_
    by_cases h2 : m % 4 = 3
    · refine ifT (by omega) ?_
      rw [go, pm1_w hs, if_pos ⟨h1, h2⟩]
    · refine ifF (by omega) ?_
      rw [go, if_neg (fun q => h2 q.2)]
  · refine ifF (by omega) ?_
    rw [go, if_neg (fun q => h1 q.1)]
theorem ja_in {k : Int → Int → Int → Int → Option Int} {m : Nat} {st : Int} : ∀ (n f a : Nat) (s tw : Int), a ≠ 0 → a < 2 ^ n → a < 4611686018427387904 → n < f → 0 ≤ tw → tw + n ≤ 64 → pm1 s → ∃ (a' : Nat) (s' : Int), a' ≠ 0 ∧ a' ≤ a ∧ pm1 s' ∧ Arithmetic_jacobiOf_42 k f a m s st tw = k ((m % a' : Nat) : Int) a' s' (w32 (st + 1)) ∧ jacS a m s = jacS (m % a') a' s' := by
  intro n
  induction n with
  | zero => intro f a s tw h0 h1; omega
  | succ n ih =>
    intro f a s tw h0 h1 h3 hf ht0 ht1 hs
    obtain ⟨f, rfl, hf⟩ := fu_pos hf
    unfold Arithmetic_jacobiOf_42
    rw [if_pos (by omega : tw < 64)]
    rw [show (2 : Int) = ((2 : Nat) : Int) from rfl, tm_n, td_n]
    by_cases h2 : a % 2 = 0
    · have hn : ∀ s', pm1 s' → ∃ (a' : Nat) (s'' : Int), a' ≠ 0 ∧ a' ≤ a ∧ pm1 s'' ∧ Arithmetic_jacobiOf_42 k f ((a / 2 : Nat) : Int) m s' st (w32 (tw + 1)) = k ((m % a' : Nat) : Int) a' s'' (w32 (st + 1)) ∧ jacS (a / 2) m s' = jacS (m % a') a' s'' := by
        intro s' hs'
        rw [w32_e (by omega)]
        obtain ⟨a', s'', g1, g2, g3, g4, g5⟩ := ih f (a / 2) s' (tw + 1) (by omega) (by rw [Nat.pow_succ] at h1; omega) (by omega) (by omega) (by omega) (by omega) hs'
        exact ⟨a', s'', g1, by omega, g3, g4, g5⟩
      rw [w64_e (by omega)]
      by_cases hm : m % 8 = 3 ∨ m % 8 = 5
      · obtain ⟨a', s'', g1, g2, g3, g4, g5⟩ := hn (-s) (pm1_neg hs)
        refine ⟨a', s'', g1, g2, g3, ?_, by rw [jac_2 h0 h2, if_pos hm]; exact g5⟩
        refine gB (by omega) ?_
        refine ifT (by omega) ?_
        refine gB (by omega) ?_
        refine gB (by omega) ?_
        rw [show (8 : Int) = ((8 : Nat) : Int) from rfl, tm_n, pm1_w hs]
        by_cases h8 : m % 8 = 3
        · refine ifT (by omega) ?_
          exact g4
        · refine ifF (by omega) ?_
          refine gB (by omega) ?_
          refine ifT (by omega) ?_
          exact g4
      · obtain ⟨a', s'', g1, g2, g3, g4, g5⟩ := hn s hs
        refine ⟨a', s'', g1, g2, g3, ?_, by rw [jac_2 h0 h2, if_neg hm]; exact g5⟩
        refine gB (by omega) ?_
        refine ifT (by omega) ?_
        refine gB (by omega) ?_
        refine gB (by omega) ?_
        rw [show (8 : Int) = ((8 : Nat) : Int) from rfl, tm_n]
        refine ifF (by omega) ?_
        refine gB (by omega) ?_
        refine ifF (by omega) ?_
        exact g4
    · refine ⟨a, if a % 4 = 3 ∧ m % 4 = 3 then -s else s, h0, Nat.le_refl _, ?_, ?_, jac_1 h2⟩
      · split
        · exact pm1_neg hs
        · exact hs
      · refine gB (by omega) ?_
        refine ifF (by omega) ?_
        exact ja_end h2 hs
theorem ja_out : ∀ (n f a m : Nat) (s st : Int), a < m → a * m < 2 ^ n → m < 2147483648 → n < f → 0 ≤ st → st + n < 200 → pm1 s → Arithmetic_jacobiOf_24 f a m s st = some (jacS a m s) := by
  intro n
  induction n with
  | zero =>
    intro f a m s st ham h hm hf h0 h1 hs
    obtain ⟨f, rfl, -⟩ := fu_pos hf
    have ha : a = 0 := by
      rcases Nat.eq_zero_or_pos a with q | q
      · exact q
      · have := Nat.mul_le_mul q (Nat.le_trans q (Nat.le_of_lt ham))
        omega
    subst ha
    unfold Arithmetic_jacobiOf_24
    refine ifT (by omega) ?_
    refine ifT rfl ?_
    rw [jac_0]
    by_cases hm1 : m = 1
    · refine ifT (by omega) ?_
      rw [if_pos hm1]
    · refine ifF (by omega) ?_
      rw [if_neg hm1]
  | succ n ih =>
    intro f a m s st ham h hm hf h0 h1 hs
    obtain ⟨f, rfl, hf⟩ := fu_pos hf
    unfold Arithmetic_jacobiOf_24
    refine ifT (by omega) ?_
    by_cases ha : a = 0
    · subst ha
      refine ifT rfl ?_
      rw [jac_0]
      by_cases hm1 : m = 1
      · refine ifT (by omega) ?_
        rw [if_pos hm1]
      · refine ifF (by omega) ?_
        rw [if_neg hm1]
    · refine ifF (by omega) ?_
      obtain ⟨a', s', g1, g2, g3, g4, g5⟩ := ja_in (k := fun a0 a1 a2 a3 => Arithmetic_jacobiOf_24 f a0 a1 a2 a3) (m := m) (st := st) 31 FU a s 0 ha (by omega) (by omega) (fu_big (by omega)) (by omega) (by omega) hs
      rw [g4, g5, w32_e (by omega)]
      have h2 : m * a' < 2 ^ (n + 1) := by
        have : m * a' ≤ m * a := Nat.mul_le_mul_left m g2
        rw [Nat.mul_comm m a] at this
        omega
      have h3 := gcd_step (by omega) (by omega) h2
      exact ih f (m % a') a' s' (st + 1) (Nat.mod_lt _ (by omega)) (by rw [Nat.mul_comm]; exact h3) (by omega) (by omega) (by omega) (by omega) g3
/-- Jacobi's sign -/
def jaS (a m : Int) : Int := jacS (a % m).toNat m.toNat 1
theorem xor_sg {a m : Int} (ha : in64 a) (hm : 0 ≤ m) (hm2 : in64 m) : xorL a m < 0 ↔ a < 0 := by
  have e1 : (xorL a m < 0) ↔ ((Int64.ofInt a ^^^ Int64.ofInt m).toBitVec.msb = true) := by
    rw [BitVec.msb_eq_toInt]
    simp only [decide_eq_true_eq]
    exact Iff.rfl
  have ea : (Int64.ofInt a).toBitVec.toInt = a := n64_toInt ha
  have em : (Int64.ofInt m).toBitVec.toInt = m := n64_toInt hm2
  rw [e1, Int64.toBitVec_xor, BitVec.msb_xor, BitVec.msb_eq_toInt, BitVec.msb_eq_toInt, ea, em]
  have : decide (m < 0) = false := by simp; omega
  rw [this]
  simp
theorem tm_neg {a m : Int} (h : a < 0) (hm : 0 < m) : (Int.tmod a m = 0 ∧ a % m = 0) ∨ Int.tmod a m = a % m - m := by
  rw [Int.tmod_eq_emod]
  by_cases hd : m ∣ a
  · rw [if_pos (Or.inr hd), Int.emod_eq_zero_of_dvd hd]
    exact Or.inl ⟨rfl, rfl⟩
  · rw [if_neg (show ¬ (0 ≤ a ∨ m ∣ a) from fun q => Or.elim q (fun z => by omega) hd)]
    exact Or.inr (by omega)
theorem s_floorMod {a m : Int} (ha : in64 a) (hm : 0 < m ∧ m < 9223372036854775808) : Math_floorMod a m = some (a % m) := by
  unfold Math_floorMod
  refine gB (by omega) ?_
  have hb := mod_bd (a := a) hm.1
  have hm2 : in64 m := by unfold in64; omega
  by_cases h : a < 0
  · refine ifT ((xor_sg ha (by omega) hm2).mpr h) ?_
    rcases tm_neg h hm.1 with ⟨e1, e2⟩ | e1
    · rw [e1, e2]
      exact ifT rfl rfl
    · rw [e1]
      refine ifF (by omega) ?_
      rw [w64_e (by omega), Int.sub_add_cancel]
  · refine ifF (fun q => h ((xor_sg ha (by omega) hm2).mp q)) ?_
    rw [tm_e (by omega)]
theorem s_jacobiOf {a m : Int} (ha : in64 a) (hm : 0 < m ∧ m < 2147483648) : Arithmetic_jacobiOf a m = some (jaS a m) := by
  unfold Arithmetic_jacobiOf jaS
  have hb := mod_bd (a := a) hm.1
  refine ifF (by omega) ?_
  refine cB (s_floorMod ha ⟨hm.1, by omega⟩) ?_
  obtain ⟨k, hk⟩ := Int.eq_ofNat_of_zero_le hb.1
  obtain ⟨n, rfl⟩ := Int.eq_ofNat_of_zero_le (show 0 ≤ m by omega)
  rw [hk, Int.toNat_natCast, Int.toNat_natCast]
  rw [hk] at hb
  have : k * n < 2 ^ 62 := by
    have := Nat.mul_le_mul (show k ≤ 2147483647 by omega) (show n ≤ 2147483647 by omega)
    omega
  exact ja_out 62 FU k n 1 0 (by omega) this (by omega) (fu_big (by omega)) (by omega) (by omega) (Or.inl rfl)
theorem sg_in {k : Int → Int → Int → Option Int} {m : Nat} : ∀ (n f a : Nat) (s : Int), a ≠ 0 → a < 2 ^ n → a < 4611686018427387904 → n < f → pm1 s → ∃ (a' : Nat) (s' : Int), a' ≠ 0 ∧ a' ≤ a ∧ pm1 s' ∧ R_signOf_33 k f m a s = k a' ((m % a' : Nat) : Int) s' ∧ jacS a m s = jacS (m % a') a' s' := by
  intro n
  induction n with
  | zero => intro f a s h0 h1; omega
  | succ n ih =>
    intro f a s h0 h1 h3 hf hs
    obtain ⟨f, rfl, hf⟩ := fu_pos hf
    unfold R_signOf_33
    rw [show (2 : Int) = ((2 : Nat) : Int) from rfl, tm_n, td_n]
    by_cases h2 : a % 2 = 0
    · have hn : ∀ s', pm1 s' → ∃ (a' : Nat) (s'' : Int), a' ≠ 0 ∧ a' ≤ a ∧ pm1 s'' ∧ R_signOf_33 k f m ((a / 2 : Nat) : Int) s' = k a' ((m % a' : Nat) : Int) s'' ∧ jacS (a / 2) m s' = jacS (m % a') a' s'' := by
        intro s' hs'
        obtain ⟨a', s'', g1, g2, g3, g4, g5⟩ := ih f (a / 2) s' (by omega) (by rw [Nat.pow_succ] at h1; omega) (by omega) (by omega) hs'
        exact ⟨a', s'', g1, by omega, g3, g4, g5⟩
      rw [w64_e (by omega)]
      by_cases hm : m % 8 = 3 ∨ m % 8 = 5
      · obtain ⟨a', s'', g1, g2, g3, g4, g5⟩ := hn (-s) (pm1_neg hs)
        refine ⟨a', s'', g1, g2, g3, ?_, by rw [jac_2 h0 h2, if_pos hm]; exact g5⟩
        refine gB (by omega) ?_
        refine ifT (by omega) ?_
        refine gB (by omega) ?_
        refine gB (by omega) ?_
        rw [show (8 : Int) = ((8 : Nat) : Int) from rfl, tm_n, pm1_w hs]
        by_cases h8 : m % 8 = 3
        · refine ifT (by omega) ?_
          exact g4
        · refine ifF (by omega) ?_
          refine gB (by omega) ?_
          refine ifT (by omega) ?_
          exact g4
      · obtain ⟨a', s'', g1, g2, g3, g4, g5⟩ := hn s hs
        refine ⟨a', s'', g1, g2, g3, ?_, by rw [jac_2 h0 h2, if_neg hm]; exact g5⟩
        refine gB (by omega) ?_
        refine ifT (by omega) ?_
        refine gB (by omega) ?_
        refine gB (by omega) ?_
        rw [show (8 : Int) = ((8 : Nat) : Int) from rfl, tm_n]
        refine ifF (by omega) ?_
        refine gB (by omega) ?_
        refine ifF (by omega) ?_
        exact g4
    · refine ⟨a, if a % 4 = 3 ∧ m % 4 = 3 then -s else s, h0, Nat.le_refl _, ?_, ?_, jac_1 h2⟩
      · split
        · exact pm1_neg hs
        · exact hs
      · refine gB (by omega) ?_
        refine ifF (by omega) ?_
        refine gB (by omega) ?_
        rw [show (4 : Int) = ((4 : Nat) : Int) from rfl, tm_n, tm_n, tm_n]
        by_cases h4 : m % 4 = 3
        · refine ifT (by omega) ?_
          refine gB (by omega) ?_
          by_cases h5 : a % 4 = 3
          · refine ifT (by omega) ?_
            refine gB (by omega) ?_
            rw [pm1_w hs, if_pos ⟨h5, h4⟩]
          · refine ifF (by omega) ?_
            refine gB (by omega) ?_
            rw [if_neg (fun q => h5 q.1)]
        · refine ifF (by omega) ?_
          refine gB (by omega) ?_
          rw [if_neg (fun q => h4 q.2)]
theorem sg_out : ∀ (n f a m : Nat) (s : Int), a < m → a * m < 2 ^ n → m < 2147483648 → n < f → pm1 s → R_signOf_26 f m a s = some (jacS a m s) := by
  intro n
  induction n with
  | zero =>
    intro f a m s ham h hm hf hs
    obtain ⟨f, rfl, -⟩ := fu_pos hf
    have ha : a = 0 := by
      rcases Nat.eq_zero_or_pos a with q | q
      · exact q
      · have := Nat.mul_le_mul q (Nat.le_trans q (Nat.le_of_lt ham))
        omega
    subst ha
    unfold R_signOf_26
    refine ifT rfl ?_
    rw [jac_0]
    by_cases hm1 : m = 1
    · refine ifT (by omega) ?_
      rw [if_pos hm1]
    · refine ifF (by omega) ?_
      rw [if_neg hm1]
  | succ n ih =>
    intro f a m s ham h hm hf hs
    obtain ⟨f, rfl, hf⟩ := fu_pos hf
    unfold R_signOf_26
    by_cases ha : a = 0
    · subst ha
      refine ifT rfl ?_
      rw [jac_0]
      by_cases hm1 : m = 1
      · refine ifT (by omega) ?_
        rw [if_pos hm1]
      · refine ifF (by omega) ?_
        rw [if_neg hm1]
    · refine ifF (by omega) ?_
      obtain ⟨a', s', g1, g2, g3, g4, g5⟩ := sg_in (k := fun a0 a1 a2 => R_signOf_26 f a0 a1 a2) (m := m) 31 FU a s ha (by omega) (by omega) (fu_big (by omega)) hs
      rw [g4, g5]
      have h2 : m * a' < 2 ^ (n + 1) := by
        have : m * a' ≤ m * a := Nat.mul_le_mul_left m g2
        rw [Nat.mul_comm m a] at this
        omega
      have h3 := gcd_step (by omega) (by omega) h2
      exact ih f (m % a') a' s' (Nat.mod_lt _ (by omega)) (by rw [Nat.mul_comm]; exact h3) (by omega) (by omega) g3
theorem s_signOf {a m : Int} (ha : in64 a) (hm : 0 < m ∧ m < 2147483648) : R_signOf a m = some (jaS a m) := by
  unfold R_signOf jaS
  have hb := mod_bd (a := a) hm.1
  refine gB (by omega) ?_
  have key : R_signOf_26 FU m (a % m) 1 = some (jacS (a % m).toNat m.toNat 1) := by
    obtain ⟨k, hk⟩ := Int.eq_ofNat_of_zero_le hb.1
    obtain ⟨n, rfl⟩ := Int.eq_ofNat_of_zero_le (show 0 ≤ m by omega)
    rw [hk, Int.toNat_natCast, Int.toNat_natCast]
    rw [hk] at hb
    have : k * n < 2 ^ 62 := by
      have := Nat.mul_le_mul (show k ≤ 2147483647 by omega) (show n ≤ 2147483647 by omega)
      omega
    exact sg_out 62 FU k n 1 (by omega) this (by omega) (fu_big (by omega)) (Or.inl rfl)
  by_cases h : a < 0
  · rcases tm_neg h hm.1 with ⟨e1, e2⟩ | e1
    · rw [e1]
      rw [e2] at key ⊢
      refine ifF (by omega) ?_
      exact key
    · rw [e1]
      refine ifT (by omega) ?_
      rw [w64_e (by omega), Int.sub_add_cancel]
      exact key
  · rw [tm_e (by omega)]
    refine ifF (by omega) ?_
    exact key
