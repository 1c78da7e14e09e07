/-! primes -/
/-- no number from 2 on whose square is at most n divides n -/
def isP (n : Int) : Prop := 2 ≤ n ∧ ∀ d : Int, 2 ≤ d → d * d ≤ n → n % d ≠ 0
theorem sq_le {d n : Int} (hd : 0 ≤ d) (h : d * d ≤ n) (hn : n < 4294967296) : d < 65536 := by
  rcases Int.lt_or_le d 65536 with q | q
  · exact q
  · exfalso
    have : 65536 * 65536 ≤ d * d := Int.mul_le_mul q q (by omega) hd
    omega
theorem rip_loop {n : Int} (hn : n < 4294967296) : ∀ (k f : Nat) (d : Int), 2 ≤ d → d + k = 65538 → k < f → (∀ e, 2 ≤ e → e < d → e * e ≤ n → n % e ≠ 0) → R_isPrime_14 f n d = some 1 ∧ (∀ e, 2 ≤ e → e * e ≤ n → n % e ≠ 0) ∨ R_isPrime_14 f n d = some 0 ∧ ∃ e, 2 ≤ e ∧ e * e ≤ n ∧ n % e = 0 := by
  intro k
  induction k with
  | zero =>
    intro f d hd hk hf hq
    obtain ⟨f, rfl, -⟩ := fu_pos hf
    unfold R_isPrime_14
    have : d = 65538 := by omega
    subst this
    rw [if_pos (by rw [w64_e (by omega)]; omega)]
    exact Or.inl ⟨rfl, fun e he h2 => hq e he (by have := sq_le (by omega) h2 hn; omega) h2⟩
  | succ k ih =>
    intro f d hd hk hf hq
    obtain ⟨f, rfl, hf⟩ := fu_pos hf
    unfold R_isPrime_14
    have hdd : 0 ≤ d * d ∧ d * d < 4611686018427387904 := mul_bd ⟨by omega, by omega⟩ ⟨by omega, by omega⟩
    rw [w64_e (by omega), w64_e (by omega)]
    by_cases h : n < d * d
    · rw [if_pos h]
      refine Or.inl ⟨rfl, fun e he h2 => hq e he ?_ h2⟩
      rcases Int.lt_or_le e d with q | q
      · exact q
      · exfalso
        have : d * d ≤ e * e := Int.mul_le_mul q q (by omega) (by omega)
        omega
    · rw [if_neg h, tm_e (by omega)]
      unfold gd
      rw [if_pos (by omega), Option.bind_some]
      by_cases h0 : n % d = 0
      · rw [if_pos h0]
        exact Or.inr ⟨rfl, d, hd, by omega, h0⟩
      · rw [if_neg h0]
        refine ih f (d + 1) (by omega) (by omega) (by omega) fun e he h1 h2 => ?_
        rcases Int.lt_or_le e d with q | q
        · exact hq e he q h2
        · have : e = d := by omega
          subst this
          exact h0
theorem s_RisPrime {n : Int} (hn : n < 4294967296) : (R_isPrime n = some 1 ∧ isP n) ∨ (R_isPrime n = some 0 ∧ ¬ isP n) := by
  unfold R_isPrime
  by_cases h : n < 2
  · rw [if_pos h]
    exact Or.inr ⟨rfl, fun q => by have := q.1; omega⟩
  · rw [if_neg h]
    rcases rip_loop hn 65536 FU 2 (by omega) (by omega) (fu_big (by omega)) (fun e he h1 => by omega) with ⟨h1, h2⟩ | ⟨h1, e, h2, h3, h4⟩
    · exact Or.inl ⟨h1, by omega, h2⟩
    · exact Or.inr ⟨h1, fun q => q.2 e h2 h3 h4⟩
/-- primality as a number -/
def prB (n : Int) : Bool := decide (2 ≤ n) && (List.range n.toNat).all fun d => decide (d < 2) || decide (n < (d : Int) * d) || decide (n % (d : Int) ≠ 0)
def prS (n : Int) : Int := if prB n then 1 else 0
theorem prB_iff {n : Int} : prB n = true ↔ isP n := by
  simp only [prB, Bool.and_eq_true, decide_eq_true_eq, List.all_eq_true, List.mem_range, Bool.or_eq_true]
  constructor
  · rintro ⟨h1, h2⟩
    refine ⟨h1, fun d hd h3 => ?_⟩
    have h4 : d * 2 ≤ d * d := Int.mul_le_mul_of_nonneg_left hd (by omega)
    have := h2 d.toNat (by omega)
    rw [Int.toNat_of_nonneg (by omega)] at this
    rcases this with (q | q) | q
    · omega
    · omega
    · exact q
  · rintro ⟨h1, h2⟩
    refine ⟨h1, fun d hd => ?_⟩
    rcases Nat.lt_or_ge d 2 with q | q
    · exact Or.inl (Or.inl q)
    · rcases Int.lt_or_le n ((d : Int) * d) with r | r
      · exact Or.inl (Or.inr r)
      · exact Or.inr (h2 d (by omega) r)
theorem prS_t {n : Int} (h : isP n) : prS n = 1 := by unfold prS; exact if_pos (prB_iff.mpr h)
theorem prS_f {n : Int} (h : ¬ isP n) : prS n = 0 := by unfold prS; exact if_neg (fun q => h (prB_iff.mp q))
theorem prS_01 (n : Int) : prS n = 0 ∨ prS n = 1 := by
  unfold prS
  split
  · exact Or.inr rfl
  · exact Or.inl rfl
theorem prS_iff {n : Int} : prS n = 0 ↔ ¬ isP n := by
  constructor
  · intro h q; rw [prS_t q] at h; omega
  · exact prS_f
theorem s_RisPrime2 {n : Int} (hn : n < 4294967296) : R_isPrime n = some (prS n) := by
  rcases s_RisPrime hn with ⟨h1, h2⟩ | ⟨h1, h2⟩
  · rw [h1, prS_t h2]
  · rw [h1, prS_f h2]
/-- what the four bases decide: to be shown by numbers -/
def MRok : Prop := ∀ n : Int, 2 ≤ n → n ≤ 1000000001 → n % 2 ≠ 0 → n % 3 ≠ 0 → n % 5 ≠ 0 → n % 7 ≠ 0 → ((paS n 2 && paS n 3 && paS n 5 && paS n 7) = true ↔ isP n)
theorem isP_small {n a : Int} (ha : 2 ≤ a ∧ a ≤ 7) (hp : a = 2 ∨ a = 3 ∨ a = 5 ∨ a = 7) (h : n % a = 0) (hn : 2 ≤ n) : isP n ↔ n = a := by
  constructor
  · intro hq
    rcases Int.lt_or_le n (a * a) with q | q
    · have : n < 49 := by
        rcases hp with rfl | rfl | rfl | rfl <;> omega
      rcases hp with rfl | rfl | rfl | rfl
      · omega
      · have h2 := hq.2 2 (by omega)
        rcases (show n = 3 ∨ n = 6 by omega) with r | r
        · exact r
        · exact absurd (h2 (by omega)) (by omega)
      · have h2 := hq.2 2 (by omega)
        have h3 := hq.2 3 (by omega)
        rcases (show n = 5 ∨ n = 10 ∨ n = 15 ∨ n = 20 by omega) with r | r | r | r
        · exact r
        · exact absurd (h2 (by omega)) (by omega)
        · exact absurd (h3 (by omega)) (by omega)
        · exact absurd (h2 (by omega)) (by omega)
      · have h2 := hq.2 2 (by omega)
        have h3 := hq.2 3 (by omega)
        have h5 := hq.2 5 (by omega)
        rcases (show n = 7 ∨ n = 14 ∨ n = 21 ∨ n = 28 ∨ n = 35 ∨ n = 42 by omega) with r | r | r | r | r | r
        · exact r
        · exact absurd (h2 (by omega)) (by omega)
        · exact absurd (h3 (by omega)) (by omega)
        · exact absurd (h2 (by omega)) (by omega)
        · exact absurd (h5 (by omega)) (by omega)
        · exact absurd (h2 (by omega)) (by omega)
    · exact absurd h (hq.2 a ha.1 q)
  · rintro rfl
    refine ⟨hn, fun d hd h2 => ?_⟩
    have hd3 : d < 3 := by
      rcases Int.lt_or_le d 3 with q | q
      · exact q
      · have : 3 * 3 ≤ d * d := Int.mul_le_mul q q (by omega) (by omega)
        omega
    have : d = 2 := by omega
    subst this
    rcases hp with rfl | rfl | rfl | rfl <;> omega
theorem b2i_and {a b : Bool} : (if b2i a = 0 then some (0 : Int) else some (b2i b)) = some (b2i (a && b)) := by cases a <;> cases b <;> rfl
theorem ip_wit : witA 0 = 2 ∧ witA 1 = 3 ∧ witA 2 = 5 ∧ witA 3 = 7 := ⟨rfl, rfl, rfl, rfl⟩
theorem s_isPrime (hM : MRok) {n : Int} (hn : n ≤ 1000000001) : Arithmetic_isPrime n = some (prS n) := by
  unfold Arithmetic_isPrime
  by_cases h : n < 2
  · refine ifT (by omega) ?_
    rw [prS_f (fun q => by have := q.1; omega)]
  refine ifF (by omega) ?_
  have st16 : ∀ (f : Nat) (i : Int) (a : Int), 0 ≤ i ∧ i < 4 → witA i = a → 2 ≤ a ∧ a ≤ 7 → Arithmetic_isPrime_16 (f + 1) n 4 i = if n % a = 0 then (if n = a then some 1 else some 0) else Arithmetic_isPrime_16 f n 4 (i + 1) := by
    intro f i a hi hw ha
    conv => lhs; unfold Arithmetic_isPrime_16
    rw [if_pos hi.2, hw]
    refine gB hi ?_
    refine gB (by omega) ?_
    rw [tm_e (by omega), w32_e (by omega)]
  have fin : ∀ a : Int, (a = 2 ∨ a = 3 ∨ a = 5 ∨ a = 7) → n % a = 0 → (if n = a then some (1 : Int) else some 0) = some (prS n) := by
    intro a ha h0
    have := isP_small (a := a) (by omega) ha h0 (by omega)
    by_cases q : n = a
    · rw [if_pos q, prS_t (this.mpr q)]
    · rw [if_neg q, prS_f (fun z => q (this.mp z))]
  have hFU : FU = 4294967291 + 1 + 1 + 1 + 1 + 1 := rfl
  rw [hFU, st16 _ 0 2 (by omega) rfl (by omega)]
  by_cases h2 : n % 2 = 0
  · rw [if_pos h2]; exact fin 2 (Or.inl rfl) h2
  rw [if_neg h2, st16 _ (0 + 1) 3 (by omega) rfl (by omega)]
  by_cases h3 : n % 3 = 0
  · rw [if_pos h3]; exact fin 3 (by omega) h3
  rw [if_neg h3, st16 _ (0 + 1 + 1) 5 (by omega) rfl (by omega)]
  by_cases h5 : n % 5 = 0
  · rw [if_pos h5]; exact fin 5 (by omega) h5
  rw [if_neg h5, st16 _ (0 + 1 + 1 + 1) 7 (by omega) rfl (by omega)]
  by_cases h7 : n % 7 = 0
  · rw [if_pos h7]; exact fin 7 (by omega) h7
  rw [if_neg h7]
  unfold Arithmetic_isPrime_16
  refine ifF (by omega) ?_
  have st60 : ∀ (f : Nat) (i : Int) (a : Int), 0 ≤ i ∧ i < 4 → witA i = a → 2 ≤ a ∧ a ≤ 7 → Arithmetic_isPrime_60 (f + 1) n 4 i = if b2i (paS n a) = 0 then some 0 else Arithmetic_isPrime_60 f n 4 (i + 1) := by
    intro f i a hi hw ha
    conv => lhs; unfold Arithmetic_isPrime_60
    rw [if_pos hi.2, hw]
    refine gB hi ?_
    refine cB (s_passesBy (by omega) (by omega) (by omega)) ?_
    rw [w32_e (by omega)]
  rw [hFU, st60 _ 0 2 (by omega) rfl (by omega), st60 _ (0 + 1) 3 (by omega) rfl (by omega), st60 _ (0 + 1 + 1) 5 (by omega) rfl (by omega), st60 _ (0 + 1 + 1 + 1) 7 (by omega) rfl (by omega)]
  unfold Arithmetic_isPrime_60
  rw [if_neg (show ¬ ((0 : Int) + 1 + 1 + 1 + 1 < 4) by omega)]
  have hm := hM n (by omega) hn h2 h3 h5 h7
  by_cases hp : isP n
  · have := hm.mpr hp
    simp only [Bool.and_eq_true] at this
    rw [this.1.1.1, this.1.1.2, this.1.2, this.2, prS_t hp]
    rfl
  · rw [prS_f hp]
    have : ¬ (paS n 2 && paS n 3 && paS n 5 && paS n 7) = true := fun q => hp (hm.mp q)
    cases e2 : paS n 2 <;> cases e3 : paS n 3 <;> cases e5 : paS n 5 <;> cases e7 : paS n 7 <;> first
      | rfl
      | exact absurd (by rw [e2, e3, e5, e7]; rfl) this
