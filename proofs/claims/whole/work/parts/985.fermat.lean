/-! numbers: Fermat, orders -/
def PN (p : Nat) : Prop := 2 ≤ p ∧ ∀ d, d ∣ p → d = 1 ∨ d = p
theorem PN.co {p a : Nat} (hp : PN p) (h : ¬ p ∣ a) : Nat.Coprime p a := by
  rcases hp.2 (Nat.gcd p a) (Nat.gcd_dvd_left p a) with q | q
  · exact q
  · exact absurd (q ▸ Nat.gcd_dvd_right p a) h
theorem PN.mul {p a b : Nat} (hp : PN p) (h : p ∣ a * b) : p ∣ a ∨ p ∣ b := by
  by_cases q : p ∣ a
  · exact Or.inl q
  · exact Or.inr ((hp.co q).dvd_of_dvd_mul_left h)
theorem isP.pn {n : Int} (h : isP n) : PN n.toNat := by
  obtain ⟨h2, hd⟩ := h
  obtain ⟨n, rfl⟩ := Int.eq_ofNat_of_zero_le (show 0 ≤ n by omega)
  rw [Int.toNat_natCast]
  refine ⟨by omega, fun d dv => ?_⟩
  obtain ⟨e, rfl⟩ := dv
  have key : ∀ a b : Nat, 2 ≤ a → a ≤ b → a * b = d * e → False := fun a b ha hab eq => by
    refine hd a (by omega) ?_ ?_
    · have : a * a ≤ a * b := Nat.mul_le_mul_left a hab
      rw [← eq]
      exact_mod_cast this
    · rw [← eq]
      have : ((a * b : Nat) : Int) % (a : Int) = ((a * b % a : Nat) : Int) := rfl
      rw [this, Nat.mul_mod_right]
      rfl
  by_cases d1 : d = 1
  · exact Or.inl d1
  by_cases e1 : e = 1
  · subst e1; exact Or.inr (Nat.mul_one d).symm
  exfalso
  have dp : d ≠ 0 := fun z => by subst z; omega
  have ep : e ≠ 0 := fun z => by subst z; omega
  rcases Nat.le_total d e with q | q
  · exact key d e (by omega) q rfl
  · exact key e d (by omega) q (Nat.mul_comm e d)
/-! binomials -/
def ch : Nat → Nat → Nat
  | _, 0 => 1
  | 0, _ + 1 => 0
  | n + 1, k + 1 => ch n k + ch n (k + 1)
theorem ch_0 (n : Nat) : ch n 0 = 1 := by cases n <;> rfl
theorem ch_s (n k : Nat) : ch (n + 1) (k + 1) = ch n k + ch n (k + 1) := rfl
theorem ch_a : ∀ n k, (k + 1) * ch (n + 1) (k + 1) = (n + 1) * ch n k
  | 0, 0 => rfl
  | 0, k + 1 => rfl
  | n + 1, 0 => by
    have h : ch (n + 1) 1 = n + 1 := by
      have := ch_a n 0
      rw [ch_0] at this
      have t2 : (0 + 1) * ch (n + 1) 1 = (n + 1) * 1 := this
      omega
    show (0 + 1) * (ch (n + 1) 0 + ch (n + 1) 1) = (n + 1 + 1) * ch (n + 1) 0
    rw [ch_0, h]
    omega
  | n + 1, k + 1 => by
    have h1 := ch_a n (k + 1)
    have h2 := ch_a n k
    rw [ch_s (n + 1) (k + 1), Nat.mul_add, h1]
    have h3 : ch (n + 1) (k + 1) = ch n k + ch n (k + 1) := rfl
    have h4 : (k + 1 + 1) * ch (n + 1) (k + 1) = (k + 1) * ch (n + 1) (k + 1) + ch (n + 1) (k + 1) := Nat.succ_mul _ _
    have h5 : (n + 1 + 1) * ch (n + 1) (k + 1) = (n + 1) * ch (n + 1) (k + 1) + ch (n + 1) (k + 1) := Nat.succ_mul _ _
    rw [h4, h5, h2, h3, Nat.mul_add]
    omega
theorem ch_n : ∀ n, ch n n = 1 ∧ ∀ k, n < k → ch n k = 0
  | 0 => ⟨rfl, fun k hk => by cases k with
    | zero => exact absurd hk (Nat.lt_irrefl 0)
    | succ k => rfl⟩
  | n + 1 => by
    obtain ⟨a, b⟩ := ch_n n
    refine ⟨by rw [ch_s, a, b (n + 1) (Nat.lt_succ_self n)], fun k hk => ?_⟩
    cases k with
    | zero => omega
    | succ k => rw [ch_s, b k (by omega), b (k + 1) (by omega)]
def sB (n a : Nat) : Nat → Nat
  | 0 => 0
  | j + 1 => sB n a j + ch n j * a ^ j
theorem sB_s (n a : Nat) : ∀ j, sB (n + 1) a (j + 1) = sB n a (j + 1) + a * sB n a j
  | 0 => by
    show 0 + ch (n + 1) 0 * a ^ 0 = 0 + ch n 0 * a ^ 0 + a * 0
    rw [ch_0, ch_0]
    omega
  | j + 1 => by
    show sB (n + 1) a (j + 1) + ch (n + 1) (j + 1) * a ^ (j + 1) = sB n a (j + 1) + ch n (j + 1) * a ^ (j + 1) + a * (sB n a j + ch n j * a ^ j)
    rw [sB_s n a j, ch_s, Nat.add_mul, Nat.mul_add, Nat.pow_succ]
    have : ch n j * (a ^ j * a) = a * (ch n j * a ^ j) := by rw [Nat.mul_comm (a ^ j) a, Nat.mul_left_comm]
    rw [this]
    omega
theorem sB_p (a : Nat) : ∀ n, (a + 1) ^ n = sB n a (n + 1)
  | 0 => rfl
  | n + 1 => by
    have h : sB n a (n + 1 + 1) = sB n a (n + 1) := by
      show sB n a (n + 1) + ch n (n + 1) * a ^ (n + 1) = _
      rw [(ch_n n).2 (n + 1) (Nat.lt_succ_self n), Nat.zero_mul, Nat.add_zero]
    rw [sB_s, h, Nat.pow_succ, sB_p a n, Nat.mul_add, Nat.mul_one, Nat.mul_comm (sB n a (n + 1)) a]
    omega
theorem ch_p {p k : Nat} (hp : PN p) (h1 : 1 ≤ k) (h2 : k < p) : p ∣ ch p k := by
  obtain ⟨k, rfl⟩ : ∃ j, k = j + 1 := ⟨k - 1, by omega⟩
  obtain ⟨q, rfl⟩ : ∃ j, p = j + 1 := ⟨p - 1, by have := hp.1; omega⟩
  have := ch_a q k
  rcases hp.mul (show q + 1 ∣ (k + 1) * ch (q + 1) (k + 1) from ⟨ch q k, this⟩) with z | z
  · exact absurd (Nat.le_of_dvd (Nat.succ_pos k) z) (by omega)
  · exact z
theorem sB_m {p a : Nat} (hp : PN p) : ∀ j, j < p → sB p a (j + 1) % p = 1
  | 0, _ => by
    show (0 + ch p 0 * a ^ 0) % p = 1
    rw [ch_0, Nat.pow_zero]
    exact Nat.mod_eq_of_lt hp.1
  | j + 1, h => by
    show (sB p a (j + 1) + ch p (j + 1) * a ^ (j + 1)) % p = 1
    rw [Nat.add_mod, sB_m hp j (by omega), Nat.mod_eq_zero_of_dvd (Nat.dvd_mul_right_of_dvd (ch_p hp (by omega) h) _), Nat.add_zero]
    exact Nat.mod_eq_of_lt hp.1
theorem flt_a {p : Nat} (hp : PN p) (a : Nat) : (a + 1) ^ p % p = (a ^ p + 1) % p := by
  obtain ⟨q, hq⟩ : ∃ j, p = j + 1 := ⟨p - 1, by have := hp.1; omega⟩
  rw [sB_p]
  show (sB p a p + ch p p * a ^ p) % p = _
  rw [(ch_n p).1, Nat.one_mul]
  have := sB_m (a := a) hp q (by omega)
  rw [← hq] at this
  rw [Nat.add_mod, this, Nat.add_comm (a ^ p) 1, Nat.add_mod 1 (a ^ p), Nat.mod_eq_of_lt (show 1 < p from hp.1)]
theorem flt_n {p : Nat} (hp : PN p) : ∀ a : Nat, a ^ p % p = a % p
  | 0 => by rw [Nat.zero_pow (by have := hp.1; omega)]
  | a + 1 => by
    rw [flt_a hp, Nat.add_mod, flt_n hp a, ← Nat.add_mod]
/-- Fermat -/
theorem flt {p a : Nat} (hp : PN p) (h : ¬ p ∣ a) : (p : Int) ∣ (a : Int) ^ (p - 1) - 1 := by
  have a1 : 1 ≤ a := by
    rcases Nat.eq_zero_or_pos a with z | z
    · subst z; exact absurd (Nat.dvd_zero p) h
    · exact z
  have pw : 1 ≤ a ^ (p - 1) := Nat.pow_pos a1
  have e : a ^ p = a * a ^ (p - 1) := by
    obtain ⟨q, hq⟩ : ∃ j, p = j + 1 := ⟨p - 1, by have := hp.1; omega⟩
    rw [hq, Nat.pow_succ, Nat.mul_comm]
    rfl
  have d : p ∣ a * (a ^ (p - 1) - 1) := by
    have := flt_n hp a
    rw [Nat.mul_sub, Nat.mul_one, ← e]
    exact Nat.dvd_of_mod_eq_zero (Nat.sub_mod_eq_zero_of_mod_eq this)
  have := (hp.co h).dvd_of_dvd_mul_left d
  have c := Int.natCast_dvd_natCast.mpr this
  rw [Int.natCast_sub pw, Int.natCast_pow] at c
  exact c
/-! powers that leave 1 -/
theorem one_mul_d {m x y : Int} (hx : m ∣ x - 1) (hy : m ∣ y - 1) : m ∣ x * y - 1 := by
  have : x * y - 1 = x * (y - 1) + (x - 1) := by rw [Int.mul_sub, Int.mul_one]; omega
  rw [this]
  exact Int.dvd_add (Int.dvd_mul_of_dvd_right hy) hx
theorem one_pow_d {m x : Int} (hx : m ∣ x - 1) : ∀ k : Nat, m ∣ x ^ k - 1
  | 0 => by rw [Int.pow_zero]; exact ⟨0, by omega⟩
  | k + 1 => by rw [Int.pow_succ]; exact one_mul_d (one_pow_d hx k) hx
theorem one_dv {m a : Int} {k l : Nat} (h : m ∣ a ^ k - 1) (d : k ∣ l) : m ∣ a ^ l - 1 := by
  obtain ⟨c, rfl⟩ := d
  rw [Int.pow_mul]
  exact one_pow_d h c
def gS (x : Int) : Nat → Int
  | 0 => 0
  | n + 1 => gS x n * x + 1
theorem gS_e (x : Int) : ∀ n, (x - 1) * gS x n = x ^ n - 1
  | 0 => by rw [Int.pow_zero]; show (x - 1) * 0 = 1 - 1; omega
  | n + 1 => by
    show (x - 1) * (gS x n * x + 1) = x ^ (n + 1) - 1
    rw [Int.mul_add, ← Int.mul_assoc, gS_e x n, Int.sub_mul, Int.pow_succ]
    omega
theorem gS_m {d x : Int} (h : d ∣ x - 1) : ∀ n : Nat, d ∣ gS x n - (n : Int)
  | 0 => ⟨0, by show (0 : Int) - 0 = _; omega⟩
  | n + 1 => by
    have : gS x (n + 1) - ((n + 1 : Nat) : Int) = gS x n * (x - 1) + (gS x n - (n : Int)) := by
      show gS x n * x + 1 - _ = _
      rw [Int.mul_sub]
      omega
    rw [this]
    exact Int.dvd_add (Int.dvd_mul_of_dvd_right h) (gS_m h n)
theorem lift {d x : Int} {p : Nat} (h : d ∣ x - 1) (hp : (p : Int) ∣ d) : d * (p : Int) ∣ x ^ p - 1 := by
  rw [← gS_e]
  refine Int.mul_dvd_mul h ?_
  have := gS_m (Int.dvd_trans hp h) p
  have e : gS x p = (gS x p - (p : Int)) + (p : Int) := by omega
  rw [e]
  exact Int.dvd_add this (Int.dvd_refl _)
theorem lift_e {p : Nat} {x : Int} (h : (p : Int) ∣ x - 1) : ∀ e : Nat, ((p : Int)) ^ (e + 1) ∣ x ^ (p ^ e) - 1
  | 0 => by rw [Nat.pow_zero, Int.pow_succ, Int.pow_zero, Int.one_mul, Int.pow_succ, Int.pow_zero, Int.one_mul]; exact h
  | e + 1 => by
    rw [Nat.pow_succ, Int.pow_mul, Int.pow_succ]
    refine lift (lift_e h e) ?_
    rw [Int.pow_succ]
    exact Int.dvd_mul_left _ _
theorem cop_mul {u v : Nat} {z : Int} (c : Nat.Coprime u v) (hu : (u : Int) ∣ z) (hv : (v : Int) ∣ z) : ((u * v : Nat) : Int) ∣ z := by
  rw [Int.ofNat_dvd_left] at hu hv ⊢
  exact c.mul_dvd_of_dvd_of_dvd hu hv
/-! lists of primes -/
theorem pr_nd {l : List FE} {p : Nat} (hp : PN p) (hl : ∀ x ∈ l, isP x.1 ∧ x.1 ≠ (p : Int)) : ¬ p ∣ (prE l).toNat ∧ 1 ≤ prE l := by
  induction l with
  | nil =>
    refine ⟨fun z => ?_, by show (1 : Int) ≤ 1; omega⟩
    have := Nat.le_of_dvd (by decide) (show p ∣ 1 from z)
    have := hp.1
    omega
  | cons x l ih =>
    obtain ⟨a, b⟩ := ih fun y hy => hl y (List.mem_cons_of_mem x hy)
    obtain ⟨xp, xn⟩ := hl x List.mem_cons_self
    have x2 := xp.1
    have px : (1 : Int) ≤ x.1 ^ x.2.toNat := by
      have : 0 < x.1 ^ x.2.toNat := Int.pow_pos (by omega)
      omega
    have e : (prE (x :: l)).toNat = x.1.toNat ^ x.2.toNat * (prE l).toNat := by
      show (x.1 ^ x.2.toNat * prE l).toNat = _
      rw [Int.toNat_mul (by omega) (by omega), Int.toNat_pow_of_nonneg (by omega)]
    refine ⟨fun z => ?_, ?_⟩
    · rw [e] at z
      have pd : ∀ k : Nat, ¬ p ∣ x.1.toNat ^ k := by
        intro k
        induction k with
        | zero =>
          intro z
          have := Nat.le_of_dvd (by decide) (show p ∣ 1 from z)
          have := hp.1
          omega
        | succ k ih =>
          intro z
          rw [Nat.pow_succ] at z
          rcases hp.mul z with y | y
          · exact ih y
          · rcases xp.pn.2 p y with w | w
            · have := hp.1; omega
            · exact xn (by omega)
      rcases hp.mul z with y | y
      · exact pd _ y
      · exact a y
    · show 1 ≤ x.1 ^ x.2.toNat * prE l
      have := Int.mul_le_mul px b (by omega) (by omega)
      omega
/-- p to the e in a list of unlike primes, and not once more -/
theorem pr_ex {l : List FE} (hl : ∀ x ∈ l, isP x.1) (hp : l.Pairwise fun x y => x.1 < y.1) {x : FE} (hx : x ∈ l) : ∃ c : Int, prE l = x.1 ^ x.2.toNat * c ∧ ¬ x.1.toNat ∣ c.toNat ∧ 1 ≤ c := by
  induction l with
  | nil => exact absurd hx List.not_mem_nil
  | cons y l ih =>
    rw [List.pairwise_cons] at hp
    have yp := (hl y List.mem_cons_self)
    have y2 := yp.1
    have py : (1 : Int) ≤ y.1 ^ y.2.toNat := by
      have : 0 < y.1 ^ y.2.toNat := Int.pow_pos (by omega)
      omega
    rcases List.mem_cons.mp hx with rfl | hx
    · obtain ⟨a, b⟩ := pr_nd (l := l) yp.pn fun z hz => ⟨hl z (List.mem_cons_of_mem x hz), by have := hp.1 z hz; omega⟩
      exact ⟨prE l, rfl, a, b⟩
    · obtain ⟨c, e, nd, c1⟩ := ih (fun z hz => hl z (List.mem_cons_of_mem y hz)) hp.2 hx
      have xp := hl x (List.mem_cons_of_mem y hx)
      have lt := hp.1 x hx
      refine ⟨y.1 ^ y.2.toNat * c, ?_, ?_, ?_⟩
      · show y.1 ^ y.2.toNat * prE l = _
        rw [e, Int.mul_left_comm]
      · have := (pr_nd (l := [y]) xp.pn fun z hz => ⟨by rw [List.mem_singleton.mp hz]; exact yp, by rw [List.mem_singleton.mp hz]; have := xp.1; omega⟩).1
        intro z
        have e2 : prE [y] = y.1 ^ y.2.toNat := Int.mul_one _
        rw [e2] at this
        rw [Int.toNat_mul (by omega) (by omega)] at z
        rcases xp.pn.mul z with w | w
        · exact this w
        · exact nd w
      · have := Int.mul_le_mul py c1 (by omega) (by omega)
        omega
def phF : List FE → Int
  | [] => 1
  | x :: l => (x.1 - 1) * x.1 ^ (x.2.toNat - 1) * phF l
theorem uc_ph : ∀ {l : List FE} (c : Int), (∀ x ∈ l, isP x.1 ∧ 1 ≤ x.2) → ucS l (prE l * c) = phF l * c
  | [], c, _ => rfl
  | x :: l, c, h => by
    obtain ⟨xp, x1⟩ := h x List.mem_cons_self
    have x2 := xp.1
    obtain ⟨k, hk⟩ : ∃ k : Nat, x.2.toNat = k + 1 := ⟨x.2.toNat - 1, by omega⟩
    show ucS l (x.1 ^ x.2.toNat * prE l * c / x.1 * (x.1 - 1)) = (x.1 - 1) * x.1 ^ (x.2.toNat - 1) * phF l * c
    have e : x.1 ^ x.2.toNat * prE l * c / x.1 * (x.1 - 1) = prE l * ((x.1 - 1) * x.1 ^ (x.2.toNat - 1) * c) := by
      rw [hk, Int.pow_succ, show k + 1 - 1 = k by omega]
      have : x.1 ^ k * x.1 * prE l * c = x.1 * (x.1 ^ k * prE l * c) := by
        rw [Int.mul_comm (x.1 ^ k) x.1]
        simp only [Int.mul_assoc]
      rw [this, Int.mul_ediv_cancel_left _ (by omega)]
      simp only [Int.mul_assoc, Int.mul_comm, Int.mul_left_comm]
    rw [e, uc_ph _ fun y hy => h y (List.mem_cons_of_mem x hy)]
    simp only [Int.mul_assoc, Int.mul_comm, Int.mul_left_comm]
/-- Euler, as far as it is wanted -/
theorem eul_l : ∀ {l : List FE} {a : Nat}, (∀ x ∈ l, isP x.1 ∧ 1 ≤ x.2 ∧ ¬ x.1.toNat ∣ a) → l.Pairwise (fun x y => x.1 < y.1) → 1 ≤ prE l ∧ 1 ≤ phF l ∧ prE l ∣ (a : Int) ^ (phF l).toNat - 1
  | [], a, _, _ => ⟨by show (1 : Int) ≤ 1; omega, by show (1 : Int) ≤ 1; omega, ⟨(a : Int) ^ (phF []).toNat - 1, (Int.one_mul _).symm⟩⟩
  | x :: l, a, h, hp => by
    rw [List.pairwise_cons] at hp
    obtain ⟨xp, x1, nd⟩ := h x List.mem_cons_self
    have x2 := xp.1
    obtain ⟨i1, i2, i3⟩ := eul_l (l := l) (a := a) (fun y hy => h y (List.mem_cons_of_mem x hy)) hp.2
    obtain ⟨k, hk⟩ : ∃ k : Nat, x.2.toNat = k + 1 := ⟨x.2.toNat - 1, by omega⟩
    obtain ⟨p, hpn⟩ := Int.eq_ofNat_of_zero_le (show 0 ≤ x.1 by omega)
    have pn := xp.pn
    rw [hpn, Int.toNat_natCast] at pn nd
    have p2 := pn.1
    have f1 := lift_e (x := (a : Int) ^ (p - 1)) (flt pn nd) k
    rw [← Int.pow_mul] at f1
    have pk : 0 < p ^ k := Nat.pow_pos (by omega)
    have pk1 : 0 < p ^ (k + 1) := Nat.pow_pos (by omega)
    have phe : phF (x :: l) = (((p - 1) * p ^ k : Nat) : Int) * phF l := by
      show (x.1 - 1) * x.1 ^ (x.2.toNat - 1) * phF l = _
      rw [hk, hpn, show k + 1 - 1 = k by omega, Int.natCast_mul, Int.natCast_pow, Int.natCast_sub (by omega)]
      rfl
    have q0 : 0 < (p - 1) * p ^ k := Nat.mul_pos (by omega) pk
    have phn : (phF (x :: l)).toNat = (p - 1) * p ^ k * (phF l).toNat := by
      rw [phe, Int.toNat_mul (by omega) (by omega), Int.toNat_natCast]
    have pre : prE (x :: l) = ((p ^ (k + 1) * (prE l).toNat : Nat) : Int) := by
      show x.1 ^ x.2.toNat * prE l = _
      rw [hk, hpn, Int.natCast_mul, Int.natCast_pow, Int.toNat_of_nonneg (by omega)]
    refine ⟨?_, ?_, ?_⟩
    · rw [pre]
      have : 0 < p ^ (k + 1) * (prE l).toNat := Nat.mul_pos pk1 (by omega)
      omega
    · rw [phe]
      have := Int.mul_le_mul (show (1 : Int) ≤ (((p - 1) * p ^ k : Nat) : Int) by omega) i2 (by omega) (by omega)
      omega
    · rw [pre, phn]
      have nd2 := (pr_nd (l := l) pn fun z hz => ⟨(h z (List.mem_cons_of_mem x hz)).1, by have := hp.1 z hz; omega⟩).1
      refine cop_mul ((pn.co nd2).pow_left _) ?_ ?_
      · rw [Int.natCast_pow]
        exact one_dv f1 (Nat.dvd_mul_right _ _)
      · rw [Int.toNat_of_nonneg (by omega)]
        exact one_dv i3 (Nat.dvd_mul_left _ _)
/-- the least exponent divides all -/
theorem ord_dv {m a : Int} {d L : Nat} (hd : 1 ≤ d) (h1 : m ∣ a ^ d - 1) (hl : ∀ k, 1 ≤ k → k < d → ¬ m ∣ a ^ k - 1) (h : m ∣ a ^ L - 1) : d ∣ L := by
  rcases Nat.eq_zero_or_pos (L % d) with z | z
  · exact Nat.dvd_of_mod_eq_zero z
  · exfalso
    refine hl (L % d) z (Nat.mod_lt _ hd) ?_
    have e : a ^ L = a ^ (d * (L / d)) * a ^ (L % d) := by rw [← Int.pow_add, Nat.div_add_mod]
    have h2 := one_dv h1 (Nat.dvd_mul_right d (L / d))
    have : a ^ (L % d) - 1 = (a ^ L - 1) - (a ^ (d * (L / d)) - 1) * a ^ (L % d) := by
      rw [e, Int.sub_mul]; omega
    rw [this]
    exact Int.dvd_sub h (Int.dvd_mul_of_dvd_left h2)
