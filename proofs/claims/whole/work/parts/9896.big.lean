/-! ### prime factors over 32768 -/
noncomputable def prd (d : Nat) : Nat → Nat := Nat.rec (fun lo => lo) (fun d ih lo => Nat.mul (ih lo) (ih (Nat.add lo (Nat.pow 2 d)))) d
theorem prd_e {p : Nat} (hp : PN p) : ∀ d lo, 1 ≤ lo → p ∣ prd d lo → p < lo + 2 ^ d
  | 0, lo, h1, h => by
    have := Nat.le_of_dvd h1 (show p ∣ lo from h)
    rw [Nat.pow_zero]; omega
  | d + 1, lo, h1, h => by
    have e := Nat.pow_succ (n := 2) (m := d)
    have hz := Nat.two_pow_pos d
    rcases hp.mul (show p ∣ prd d lo * prd d (lo + 2 ^ d) from h) with q | q
    · have := prd_e hp d lo h1 q; omega
    · have := prd_e hp d (lo + 2 ^ d) (by omega) q; omega
def bigL : List Nat := [71761, 36217, 37507, 38461, 39199, 55609, 44491, 50221, 33601, 33721, 33961, 51907, 35281, 35401, 36241, 37321, 39841, 41161, 41281, 41521, 42841, 42961, 43201, 43801, 44041, 44641, 45361, 45481, 47041, 47161, 71389, 47881, 96769, 49081, 49681, 49921, 51241, 51361, 52081, 52201, 39373, 53281, 53881, 54121, 67651, 54601, 54721, 55441, 56401, 57241, 58321, 58921, 60601, 91381, 61441, 61681]
noncomputable def lPr (l : List Nat) : Nat := List.rec 1 (fun x _ ih => Nat.mul x ih) l
theorem lPr_e {p : Nat} (hp : PN p) : ∀ l, p ∣ lPr l → ∃ q, q ∈ l ∧ p ∣ q
  | [], h => by
    have := Nat.le_of_dvd (by omega) (show p ∣ 1 from h)
    have := hp.1
    omega
  | x :: l, h => by
    rcases hp.mul (show p ∣ x * lPr l from h) with q | q
    · exact ⟨x, List.mem_cons_self, q⟩
    · obtain ⟨y, hy, hd⟩ := lPr_e hp l q
      exact ⟨y, List.mem_cons_of_mem _ hy, hd⟩
def gM (x : Nat) : Nat := Nat.gcd (Nat.gcd (Nat.gcd (Nat.sub (Nat.pow 2 x) 1) (Nat.sub (Nat.pow 3 x) 1)) (Nat.sub (Nat.pow 5 x) 1)) (Nat.sub (Nat.pow 7 x) 1)
theorem nat_d {p a x : Nat} (ha : 1 ≤ a) (h : (p : Int) ∣ (a : Int) ^ x - 1) : p ∣ a ^ x - 1 := by
  have pw : 1 ≤ a ^ x := Nat.pow_pos ha
  refine Int.natCast_dvd_natCast.mp ?_
  rw [Int.natCast_sub pw, Int.natCast_pow]
  exact h
theorem gM_e {p x : Nat} (h : Q4 p x) : p ∣ gM x := Nat.dvd_gcd (Nat.dvd_gcd (Nat.dvd_gcd (nat_d (a := 2) (by omega) h.1) (nat_d (a := 3) (by omega) h.2.1)) (nat_d (a := 5) (by omega) h.2.2.1)) (nat_d (a := 7) (by omega) h.2.2.2)
noncomputable def okm (E m : Nat) : Bool := Bool.rec true (Nat.beq (Nat.mod E (gM (Nat.sub m 1))) 0) (Nat.beq (Nat.gcd m 210) 1)
noncomputable def lpm (E : Nat) (k : Nat) : Nat → Bool := Nat.rec (fun _ => true) (fun _ ih m => Bool.rec false (ih (Nat.succ m)) (okm E m)) k
def Mg (n : Nat) : Prop := ∀ m, 2 ≤ m → m < n → Nat.gcd m 210 = 1 → gM (m - 1) ∣ Nat.mul (prd 15 1) (lPr bigL)
theorem lpm_e : ∀ k n, lpm (Nat.mul (prd 15 1) (lPr bigL)) k n = true → Mg n → Mg (n + k) := by
  generalize hE : Nat.mul (prd 15 1) (lPr bigL) = E
  unfold Mg
  rw [hE]
  intro k
  induction k with
  | zero => exact fun n _ h => h
  | succ k ih =>
    intro n h r
    have h' : (Bool.rec false (lpm E k (n + 1)) (okm E n) : Bool) = true := h
    cases c : okm E n with
    | false => rw [c] at h'; cases h'
    | true =>
      rw [c] at h'
      have := ih (n + 1) h' (fun m h2 hm hg => by
        rcases Nat.lt_or_ge m n with q | q
        · exact r m h2 q hg
        · have e : m = n := by omega
          subst e
          have c' : (Bool.rec true (Nat.beq (E % gM (m - 1)) 0) (Nat.beq (Nat.gcd m 210) 1) : Bool) = true := c
          rw [hg] at c'
          exact Nat.dvd_of_mod_eq_zero (Nat.eq_of_beq_eq_true c'))
      rw [show n + (k + 1) = n + 1 + k by omega]
      exact this
theorem Mg.z : Mg 2 := fun m h1 h2 => by omega
theorem Mg.step {n : Nat} (r : Mg n) (k : Nat) (h : lpm (Nat.mul (prd 15 1) (lPr bigL)) k n = true) : Mg (n + k) := lpm_e k n h r
set_option maxRecDepth 100000 in
theorem mg_0 : Mg 1002 := Mg.step Mg.z 1000 (by decide +kernel)
set_option maxRecDepth 100000 in
theorem mg_1 : Mg 2002 := Mg.step mg_0 1000 (by decide +kernel)
set_option maxRecDepth 100000 in
theorem mg_2 : Mg 3002 := Mg.step mg_1 1000 (by decide +kernel)
set_option maxRecDepth 100000 in
theorem mg_3 : Mg 4002 := Mg.step mg_2 1000 (by decide +kernel)
set_option maxRecDepth 100000 in
theorem mg_4 : Mg 5002 := Mg.step mg_3 1000 (by decide +kernel)
set_option maxRecDepth 100000 in
theorem mg_5 : Mg 6002 := Mg.step mg_4 1000 (by decide +kernel)
set_option maxRecDepth 100000 in
theorem mg_6 : Mg 7002 := Mg.step mg_5 1000 (by decide +kernel)
set_option maxRecDepth 100000 in
theorem mg_7 : Mg 8002 := Mg.step mg_6 1000 (by decide +kernel)
set_option maxRecDepth 100000 in
theorem mg_8 : Mg 9002 := Mg.step mg_7 1000 (by decide +kernel)
set_option maxRecDepth 100000 in
theorem mg_9 : Mg 10002 := Mg.step mg_8 1000 (by decide +kernel)
set_option maxRecDepth 100000 in
theorem mg_10 : Mg 11002 := Mg.step mg_9 1000 (by decide +kernel)
set_option maxRecDepth 100000 in
theorem mg_11 : Mg 12002 := Mg.step mg_10 1000 (by decide +kernel)
set_option maxRecDepth 100000 in
theorem mg_12 : Mg 13002 := Mg.step mg_11 1000 (by decide +kernel)
set_option maxRecDepth 100000 in
theorem mg_13 : Mg 14002 := Mg.step mg_12 1000 (by decide +kernel)
set_option maxRecDepth 100000 in
theorem mg_14 : Mg 15002 := Mg.step mg_13 1000 (by decide +kernel)
set_option maxRecDepth 100000 in
theorem mg_15 : Mg 16002 := Mg.step mg_14 1000 (by decide +kernel)
set_option maxRecDepth 100000 in
theorem mg_16 : Mg 17002 := Mg.step mg_15 1000 (by decide +kernel)
set_option maxRecDepth 100000 in
theorem mg_17 : Mg 18002 := Mg.step mg_16 1000 (by decide +kernel)
set_option maxRecDepth 100000 in
theorem mg_18 : Mg 19002 := Mg.step mg_17 1000 (by decide +kernel)
set_option maxRecDepth 100000 in
theorem mg_19 : Mg 20002 := Mg.step mg_18 1000 (by decide +kernel)
set_option maxRecDepth 100000 in
theorem mg_20 : Mg 21002 := Mg.step mg_19 1000 (by decide +kernel)
set_option maxRecDepth 100000 in
theorem mg_21 : Mg 22002 := Mg.step mg_20 1000 (by decide +kernel)
set_option maxRecDepth 100000 in
theorem mg_22 : Mg 23002 := Mg.step mg_21 1000 (by decide +kernel)
set_option maxRecDepth 100000 in
theorem mg_23 : Mg 24002 := Mg.step mg_22 1000 (by decide +kernel)
set_option maxRecDepth 100000 in
theorem mg_24 : Mg 25002 := Mg.step mg_23 1000 (by decide +kernel)
set_option maxRecDepth 100000 in
theorem mg_25 : Mg 26002 := Mg.step mg_24 1000 (by decide +kernel)
set_option maxRecDepth 100000 in
theorem mg_26 : Mg 27002 := Mg.step mg_25 1000 (by decide +kernel)
set_option maxRecDepth 100000 in
theorem mg_27 : Mg 28002 := Mg.step mg_26 1000 (by decide +kernel)
set_option maxRecDepth 100000 in
theorem mg_28 : Mg 29002 := Mg.step mg_27 1000 (by decide +kernel)
set_option maxRecDepth 100000 in
theorem mg_29 : Mg 30002 := Mg.step mg_28 1000 (by decide +kernel)
set_option maxRecDepth 100000 in
theorem mg_30 : Mg 30522 := Mg.step mg_29 520 (by decide +kernel)
theorem mg_all : Mg 30522 := mg_30
noncomputable def okb (q : Nat) : Bool := Nat.rec false (fun j ih => orB (okj q 330 (Nat.succ j)) ih) 16
theorem okb_e {q : Nat} (hp : PN q) (h : okb q = true) : gdP q := by
  unfold okb at h
  generalize 16 = k at h
  induction k with
  | zero => cases h
  | succ k ih =>
    rcases orB_e.mp h with z | z
    · exact okj_e hp z
    · exact ih z
set_option maxRecDepth 100000 in
theorem bigL_ok : bigL.all okb = true := by decide +kernel
theorem bigL_bd : ∀ q ∈ bigL, q < 98304 ∧ q % 2 = 1 := by decide +kernel
theorem gd_big {p : Nat} (h : 32768 < p) (hp : PN p) : gdP p := by
  intro m h2 hm hg hq
  have q4 := Q4.rest hp (by omega) hg hq
  have hm1 : m < 30522 := by
    rcases Nat.lt_or_ge m 30522 with z | z
    · exact z
    · have : 32769 * 30522 ≤ p * m := Nat.mul_le_mul (by omega) z
      omega
  have gm : Nat.gcd m 210 = 1 := Nat.Coprime.coprime_dvd_left (Nat.dvd_mul_left m p) hg
  have d := Nat.dvd_trans (gM_e q4) (mg_all m h2 hm1 gm)
  rcases hp.mul (show p ∣ prd 15 1 * lPr bigL from d) with z | z
  · have := prd_e hp 15 1 (Nat.le_refl _) z
    have : (2 : Nat) ^ 15 = 32768 := rfl
    omega
  · obtain ⟨q, hl, hd⟩ := lPr_e hp _ z
    obtain ⟨b1, b2⟩ := bigL_bd q hl
    obtain ⟨c, hc⟩ := hd
    have e : p = q := by
      have c3 : c < 3 := by
        rcases Nat.lt_or_ge c 3 with z | z
        · exact z
        · have : 32769 * 3 ≤ p * c := Nat.mul_le_mul (by omega) z
          omega
      have : c = 0 ∨ c = 1 ∨ c = 2 := by omega
      rcases this with z | z | z <;> subst z <;> omega
    have k := List.all_eq_true.mp bigL_ok q hl
    rw [← e] at k
    exact okb_e hp k m h2 hm hg hq
