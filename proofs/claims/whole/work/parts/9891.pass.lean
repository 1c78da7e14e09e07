/-! ### passing: primes pass; what passes leaves 1 -/
theorem mc_d {m a b c : Int} (h : MC m a b) (hb : m ∣ b - c) : m ∣ a - c := by
  have h1 : m ∣ a - b := Int.dvd_of_emod_eq_zero (Int.emod_eq_emod_iff_emod_sub_eq_zero.mp h)
  have : a - c = (a - b) + (b - c) := by omega
  rw [this]; exact Int.dvd_add h1 hb
theorem pow_2t (x : Int) (t : Nat) : x ^ (2 ^ (t + 1)) = (x * x) ^ (2 ^ t) := by
  have e : x ^ 2 = x * x := by rw [Int.pow_succ, Int.pow_succ, Int.pow_zero, Int.one_mul]
  rw [Nat.pow_succ, Nat.mul_comm, Int.pow_mul, e]
theorem sq_d {n : Int} : ∀ (t : Nat) (x : Int), sqr n t x = true → n ∣ x ^ (2 ^ t) - 1
  | 0, x, h => by cases h
  | t + 1, x, h => by
    unfold sqr at h
    rw [pow_2t]
    rcases (Bool.or_eq_true _ _).mp h with q | q
    · have q := of_decide_eq_true q
      subst q
      refine one_pow_d (m := n) ⟨n - 2, ?_⟩ _
      rw [Int.sub_mul, Int.mul_sub, Int.mul_sub, Int.mul_sub]
      omega
    · exact mc_d ((MC.md (m := n) (a := x * x)).pow (2 ^ t)).sy (sq_d t _ q)
theorem sq_1 {p x : Nat} (hp : PN p) (hx : x < p) (h : (p : Int) ∣ (x : Int) * x - 1) : x = 1 ∨ x + 1 = p := by
  rcases Nat.eq_zero_or_pos x with z | z
  · subst z
    have h2 := hp.1
    obtain ⟨k, hk⟩ := h
    have hk : (p : Int) * k = -1 := by omega
    have : (p : Int) ∣ 1 := ⟨-k, by rw [Int.mul_neg, hk]; rfl⟩
    have := Int.le_of_dvd (by omega) this
    omega
  · obtain ⟨y, rfl⟩ : ∃ y, x = y + 1 := ⟨x - 1, by omega⟩
    have e : ((y + 1 : Nat) : Int) * ((y + 1 : Nat) : Int) - 1 = ((y * (y + 2) : Nat) : Int) := by
      rw [Int.natCast_mul, Int.natCast_add, Int.natCast_add, Int.add_mul, Int.mul_add, Int.mul_add, Int.mul_add]
      omega
    rw [e] at h
    have h := Int.natCast_dvd_natCast.mp h
    rcases hp.mul h with q | q
    · rcases Nat.eq_zero_or_pos y with z | z
      · left; omega
      · have := Nat.le_of_dvd z q; omega
    · have := Nat.le_of_dvd (by omega) q
      right; omega
theorem sq_0 {p x : Nat} (hp : PN p) (hx : x < p) (h : (p : Int) ∣ (x : Int) - 1) : x = 1 := by
  have h2 := hp.1
  rcases Nat.eq_zero_or_pos x with z | z
  · subst z
    obtain ⟨k, hk⟩ := h
    have hk : (p : Int) * k = -1 := by omega
    have : (p : Int) ∣ 1 := ⟨-k, by rw [Int.mul_neg, hk]; rfl⟩
    have := Int.le_of_dvd (by omega) this
    omega
  · obtain ⟨y, rfl⟩ : ∃ y, x = y + 1 := ⟨x - 1, by omega⟩
    have e : ((y + 1 : Nat) : Int) - 1 = (y : Int) := by omega
    rw [e] at h
    have h := Int.natCast_dvd_natCast.mp h
    rcases Nat.eq_zero_or_pos y with z | z
    · omega
    · have := Nat.le_of_dvd z h; omega
theorem sq_t {p : Nat} (hp : PN p) : ∀ (t x : Nat), x < p → (p : Int) ∣ (x : Int) ^ (2 ^ t) - 1 → x = 1 ∨ sqr (p : Int) t (x : Int) = true
  | 0, x, hx, h => by
    have e : (x : Int) ^ (2 ^ 0) = x := by rw [Nat.pow_zero, Int.pow_succ, Int.pow_zero, Int.one_mul]
    rw [e] at h
    exact Or.inl (sq_0 hp hx h)
  | t + 1, x, hx, h => by
    rw [pow_2t] at h
    have c : ((x * x % p : Nat) : Int) = (x : Int) * x % p := by rw [Int.natCast_emod, Int.natCast_mul]
    have h2 : (p : Int) ∣ ((x * x % p : Nat) : Int) ^ (2 ^ t) - 1 := by
      rw [c]
      exact mc_d ((MC.md (m := (p : Int)) (a := (x : Int) * x)).pow (2 ^ t)) h
    have hp2 := hp.1
    rcases sq_t hp t (x * x % p) (Nat.mod_lt _ (by omega)) h2 with q | q
    · have h3 : (p : Int) ∣ (x : Int) * x - 1 := by
        refine mc_d (MC.md (m := (p : Int)) (a := (x : Int) * x)).sy ?_
        rw [← c, q]
        exact ⟨0, by omega⟩
      rcases sq_1 hp hx h3 with z | z
      · exact Or.inl z
      · right
        unfold sqr
        rw [decide_eq_true (show (x : Int) = (p : Int) - 1 by omega)]
        rfl
    · right
      unfold sqr
      rw [← c, q, Bool.or_true]
theorem pw_n (a o p : Nat) : pwS (a : Int) (o : Int) (p : Int) = ((a ^ o % p : Nat) : Int) := by
  unfold pwS
  rw [Int.toNat_natCast, Int.natCast_emod, Int.natCast_pow]
theorem pa_t {p a : Nat} (hp : PN p) (ha : ¬ p ∣ a) : paS (p : Int) (a : Int) = true := by
  have h2 := hp.1
  have e : ((p : Int) - 1).toNat = p - 1 := by omega
  have m := od_mul (p - 1)
  unfold paS
  rw [e, pw_n]
  have h3 : (p : Int) ∣ ((a ^ (odS (p - 1)).1 % p : Nat) : Int) ^ (2 ^ (odS (p - 1)).2) - 1 := by
    rw [Int.natCast_emod]
    refine mc_d ((MC.md (m := (p : Int))).pow _) ?_
    rw [Int.natCast_pow, ← Int.pow_mul, m]
    exact flt hp ha
  rcases sq_t hp _ _ (Nat.mod_lt _ (by omega)) h3 with q | q
  · rw [q]; rfl
  · rw [q, Bool.or_true]
theorem pa_d {n a : Nat} (hn : 2 ≤ n) (h : paS (n : Int) (a : Int) = true) : (n : Int) ∣ (a : Int) ^ (n - 1) - 1 := by
  have e : ((n : Int) - 1).toNat = n - 1 := by omega
  have m := od_mul (n - 1)
  unfold paS at h
  rw [e, pw_n] at h
  have key : (n : Int) ∣ ((a ^ (odS (n - 1)).1 % n : Nat) : Int) ^ (2 ^ (odS (n - 1)).2) - 1 := by
    rcases (Bool.or_eq_true _ _).mp h with q | q
    · have q := of_decide_eq_true q
      rw [q]
      exact one_pow_d ⟨0, by omega⟩ _
    · exact sq_d _ _ q
  have := mc_d (((MC.md (m := (n : Int)) (a := ((a ^ (odS (n - 1)).1 : Nat) : Int))).sy).pow (2 ^ (odS (n - 1)).2)) (by rw [← Int.natCast_emod]; exact key)
  rw [Int.natCast_pow, ← Int.pow_mul, m] at this
  exact this
