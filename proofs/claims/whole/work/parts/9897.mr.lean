/-! ### bases 2, 3, 5, 7 are right up to 10^9 + 1 -/
noncomputable def sqN (n : Nat) (t : Nat) : Nat → Bool := Nat.rec (fun _ => false) (fun _ ih x => orB (Nat.beq (Nat.succ x) n) (ih (Nat.mod (Nat.mul x x) n))) t
theorem sqN_e {n : Nat} : ∀ (t x : Nat), sqr (n : Int) t (x : Int) = true → sqN n t x = true
  | 0, _, h => by cases h
  | t + 1, x, h => by
    unfold sqr at h
    show orB (Nat.beq (x + 1) n) (sqN n t (x * x % n)) = true
    refine orB_e.mpr ?_
    rcases (Bool.or_eq_true _ _).mp h with q | q
    · left
      have q := of_decide_eq_true q
      have : x + 1 = n := by omega
      rw [this]
      exact Nat.beq_refl n
    · right
      refine sqN_e t _ ?_
      rw [Int.natCast_emod, Int.natCast_mul]
      exact q
theorem od_u {o : Nat} (h : o % 2 = 1) : ∀ t, odS (o * 2 ^ t) = (o, t)
  | 0 => by rw [Nat.pow_zero, Nat.mul_one]; exact od_o (by omega)
  | t + 1 => by
    have e : o * 2 ^ (t + 1) = 2 * (o * 2 ^ t) := by rw [Nat.pow_succ]; grind
    have p : 0 < o * 2 ^ t := Nat.mul_pos (by omega) (Nat.two_pow_pos t)
    rw [e, od_e (by omega) (by omega), Nat.mul_div_cancel_left _ (by omega), od_u h t]
noncomputable def faB (n o t a : Nat) : Bool := noB (orB (Nat.beq (mp a o n) 1) (sqN n t (mp a o n)))
noncomputable def exB (n t : Nat) : Bool := anB (Nat.beq (Nat.mul (Nat.div (Nat.sub n 1) (Nat.pow 2 t)) (Nat.pow 2 t)) (Nat.sub n 1)) (anB (Nat.beq (Nat.mod (Nat.div (Nat.sub n 1) (Nat.pow 2 t)) 2) 1) (orB (faB n (Nat.div (Nat.sub n 1) (Nat.pow 2 t)) t 2) (orB (faB n (Nat.div (Nat.sub n 1) (Nat.pow 2 t)) t 3) (orB (faB n (Nat.div (Nat.sub n 1) (Nat.pow 2 t)) t 5) (faB n (Nat.div (Nat.sub n 1) (Nat.pow 2 t)) t 7)))))
theorem faB_e {n o t a : Nat} (hn : 2 ≤ n) (h1 : o * 2 ^ t = n - 1) (h2 : o % 2 = 1) (h : faB n o t a = true) : ¬ paS (n : Int) (a : Int) = true := by
  intro q
  have e : ((n : Int) - 1).toNat = n - 1 := by omega
  unfold paS at q
  rw [e, ← h1, od_u h2, pw_n] at q
  refine noB_e.mp h (orB_e.mpr ?_)
  rw [mp_e]
  rcases (Bool.or_eq_true _ _).mp q with z | z
  · left
    have z := of_decide_eq_true z
    have : a ^ o % n = 1 := by exact_mod_cast z
    rw [this]; rfl
  · exact Or.inr (sqN_e _ _ z)
noncomputable def exA (n : Nat) : Bool := Nat.rec false (fun t ih => orB (exB n t) ih) 31
theorem exA_e {n : Nat} (hn : 2 ≤ n) (h : exA n = true) : ¬ (paS (n : Int) 2 && paS (n : Int) 3 && paS (n : Int) 5 && paS (n : Int) 7) = true := by
  intro q
  obtain ⟨q, q7⟩ := (Bool.and_eq_true _ _).mp q
  obtain ⟨q, q5⟩ := (Bool.and_eq_true _ _).mp q
  obtain ⟨q2, q3⟩ := (Bool.and_eq_true _ _).mp q
  unfold exA at h
  generalize 31 = k at h
  induction k with
  | zero => cases h
  | succ k ih =>
    rcases orB_e.mp h with z | z
    · obtain ⟨a1, z⟩ := anB_e.mp z
      obtain ⟨a2, z⟩ := anB_e.mp z
      have a1 := Nat.eq_of_beq_eq_true a1
      have a2 := Nat.eq_of_beq_eq_true a2
      rcases orB_e.mp z with z | z
      · exact faB_e (a := 2) hn a1 a2 z q2
      rcases orB_e.mp z with z | z
      · exact faB_e (a := 3) hn a1 a2 z q3
      rcases orB_e.mp z with z | z
      · exact faB_e (a := 5) hn a1 a2 z q5
      · exact faB_e (a := 7) hn a1 a2 z q7
    · exact ih z
set_option maxRecDepth 100000 in
theorem exL_ok : exL.all exA = true := by decide +kernel
def smaL : List Nat := [11, 13, 17, 19, 23, 29, 31, 37, 41, 43, 47, 53, 59, 61, 67, 71, 73, 79, 83, 89, 97]
theorem sma_all : ∀ r : Nat, r < 100 → r < 2 ∨ r ∈ smaL ∨ r ∣ 210 ∨ ∃ d, d < 10 ∧ 2 ≤ d ∧ d < r ∧ d ∣ r := by decide +kernel
theorem sma_e {r : Nat} (hr : PN r) (h : r < 100) (h2 : ¬ r ∣ 210) : r ∈ smaL := by
  rcases sma_all r h with q | q | q | ⟨d, q1, q2, q3, q4⟩
  · have := hr.1; omega
  · exact q
  · exact absurd q h2
  · rcases hr.2 d q4 with z | z <;> omega
theorem sma_11 : ∀ r ∈ smaL, 11 ≤ r := by decide +kernel
theorem fer_ex {n : Nat} (h2 : 2 ≤ n) (hN : n ≤ 1000000001) (hg : Nat.gcd n 210 = 1) (hn : ¬ PN n) (hq : Q4 n (n - 1)) : n ∈ exL := by
  by_cases h : ∃ p, PN p ∧ p ∣ n ∧ 100 ≤ p
  · obtain ⟨p, hp, ⟨m, rfl⟩, h100⟩ := h
    have m0 : m ≠ 0 := fun z => by subst z; omega
    have m1 : m ≠ 1 := fun z => by subst z; rw [Nat.mul_one] at hn; exact hn hp
    have g : gdP p := by
      by_cases a : p < 1000
      · exact gd_small h100 a hp
      · by_cases b : p ≤ 32768
        · exact gd_mid (by omega) b hp
        · exact gd_big (by omega) hp
    exact g m (by omega) hN hg hq
  · have hs : ∀ r, PN r → r ∣ n → r ∈ smaL := fun r hr hd => by
      have lt : r < 100 := by
        rcases Nat.lt_or_ge r 100 with z | z
        · exact z
        · exact absurd ⟨r, hr, hd, z⟩ h
      exact sma_e hr lt (nd_210 hr.1 hd hg (Nat.dvd_refl 210))
    have k : ok2 n = true := tp_11 n h2 hs hN
    rcases orB_e.mp k with z | z
    · exfalso
      have z : n ≤ 100 := Nat.le_of_ble_eq_true z
      obtain ⟨p, hp, hd⟩ := pn_ex n h2
      have p11 := sma_11 p (hs p hp hd)
      obtain ⟨m, rfl⟩ := hd
      have m0 : m ≠ 0 := fun z => by subst z; omega
      have m1 : m ≠ 1 := fun z => by subst z; rw [Nat.mul_one] at hn; exact hn hp
      obtain ⟨r, hr, hd⟩ := pn_ex m (by omega)
      have r11 := sma_11 r (hs r hr (Nat.dvd_trans hd (Nat.dvd_mul_left m p)))
      have := Nat.le_of_dvd (by omega) hd
      have : 11 * 11 ≤ p * m := Nat.mul_le_mul p11 (by omega)
      omega
    · exact okn_e h2 hg hq z
theorem gcd_210 {n : Nat} (h2 : n % 2 ≠ 0) (h3 : n % 3 ≠ 0) (h5 : n % 5 ≠ 0) (h7 : n % 7 ≠ 0) : Nat.gcd n 210 = 1 := by
  by_cases g : Nat.gcd n 210 = 1
  · exact g
  · exfalso
    have g0 : 0 < Nat.gcd n 210 := Nat.gcd_pos_of_pos_right n (by omega)
    obtain ⟨r, hr, hd⟩ := pn_ex (Nat.gcd n 210) (by omega)
    have d1 := Nat.dvd_trans hd (Nat.gcd_dvd_left n 210)
    have d2 := Nat.dvd_trans hd (Nat.gcd_dvd_right n 210)
    have r2 := hr.1
    have key : r ∣ 2 ∨ r ∣ 3 ∨ r ∣ 5 ∨ r ∣ 7 := by
      rcases hr.mul (show r ∣ 2 * 105 from d2) with z | z
      · exact Or.inl z
      rcases hr.mul (show r ∣ 3 * 35 from z) with z | z
      · exact Or.inr (Or.inl z)
      rcases hr.mul (show r ∣ 5 * 7 from z) with z | z
      · exact Or.inr (Or.inr (Or.inl z))
      · exact Or.inr (Or.inr (Or.inr z))
    have m := Nat.mod_eq_zero_of_dvd d1
    rcases key with z | z | z | z
    · have := Nat.le_of_dvd (by omega) z
      have e : r = 2 := by omega
      subst e; exact h2 m
    · have := Nat.le_of_dvd (by omega) z
      have e : r = 2 ∨ r = 3 := by omega
      rcases e with e | e <;> subst e <;> first | exact h2 m | exact h3 m
    · have := Nat.le_of_dvd (by omega) z
      have e : r = 2 ∨ r = 3 ∨ r = 4 ∨ r = 5 := by omega
      rcases e with e | e | e | e <;> subst e <;> first | exact h2 m | exact h3 m | exact h5 m | (exfalso; omega)
    · have := Nat.le_of_dvd (by omega) z
      have e : r = 2 ∨ r = 3 ∨ r = 4 ∨ r = 5 ∨ r = 6 ∨ r = 7 := by omega
      rcases e with e | e | e | e | e | e <;> subst e <;> first | exact h2 m | exact h3 m | exact h5 m | exact h7 m | (exfalso; omega)
theorem mr_ok : MRok := by
  intro n h2 hN n2 n3 n5 n7
  obtain ⟨n, rfl⟩ := Int.eq_ofNat_of_zero_le (show 0 ≤ n by omega)
  have hg : Nat.gcd n 210 = 1 := gcd_210 (by omega) (by omega) (by omega) (by omega)
  constructor
  · intro h
    refine Classical.byContradiction fun c => ?_
    have np : ¬ PN n := fun z => c z.isP
    have hh := h
    obtain ⟨q, q7⟩ := (Bool.and_eq_true _ _).mp h
    obtain ⟨q, q5⟩ := (Bool.and_eq_true _ _).mp q
    obtain ⟨q2, q3⟩ := (Bool.and_eq_true _ _).mp q
    have n2' : 2 ≤ n := by omega
    have m := fer_ex n2' (by omega) hg np ⟨pa_d (a := 2) n2' q2, pa_d (a := 3) n2' q3, pa_d (a := 5) n2' q5, pa_d (a := 7) n2' q7⟩
    exact exA_e n2' (List.all_eq_true.mp exL_ok n m) hh
  · intro hp
    have hp := hp.pn
    rw [Int.toNat_natCast] at hp
    have nd : ∀ a, 1 ≤ a → a ≤ 7 → a ∣ 210 → ¬ n ∣ a := fun a _ _ ha => nd_210 hp.1 (Nat.dvd_refl n) hg ha
    rw [show paS (n : Int) 2 = true from pa_t (a := 2) hp (nd 2 (by omega) (by omega) ⟨105, rfl⟩), show paS (n : Int) 3 = true from pa_t (a := 3) hp (nd 3 (by omega) (by omega) ⟨70, rfl⟩), show paS (n : Int) 5 = true from pa_t (a := 5) hp (nd 5 (by omega) (by omega) ⟨42, rfl⟩), show paS (n : Int) 7 = true from pa_t (a := 7) hp (nd 7 (by omega) (by omega) ⟨30, rfl⟩)]
    rfl
