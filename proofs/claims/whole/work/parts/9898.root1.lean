/-! ## primitive roots: what the kernel is asked -/
theorem z_if {α : Type} {f t : α} {b : Bool} : (@Bool.rec (fun _ => α) f t b) = if b = true then t else f := by cases b <;> rfl
noncomputable def z_pwA (a e q : Nat) : Nat := (Nat.mod (Nat.mul (Nat.pow (Nat.mod (Nat.mul (Nat.pow (Nat.mod (Nat.pow a (Nat.shiftRight e (nat_lit 14))) q) (nat_lit 128)) (Nat.pow a (Nat.mod (Nat.shiftRight e (nat_lit 7)) (nat_lit 128)))) q) (nat_lit 128)) (Nat.pow a (Nat.mod e (nat_lit 128)))) q)
noncomputable def z_pwB (a e q : Nat) : Nat := (Nat.mod (Nat.mul (Nat.pow (Nat.mod (Nat.pow a (Nat.shiftRight e (nat_lit 8))) q) (nat_lit 256)) (Nat.pow a (Nat.mod e (nat_lit 256)))) q)
noncomputable def z_eA (a m c : Nat) : Nat := Nat.sub (z_pwA a (Nat.div m c) (Nat.succ m)) (nat_lit 1)
noncomputable def z_lf (a m G : Nat) : Nat := Bool.rec (z_eA a m G) (nat_lit 1) (Nat.beq G (nat_lit 1))
noncomputable def z_ck (L a m : Nat) (bs : List Nat) : Nat → Nat := List.rec (fun G => Bool.rec (nat_lit 0) (z_lf a m G) (Nat.ble G L)) (fun b _ ih G => Bool.rec (Nat.mul (ih (Nat.gcd G b)) (ih (Nat.div G (Nat.gcd G b)))) (z_lf a m G) (Nat.ble G L)) bs
noncomputable def z_ly (L : Nat) (b : List Nat) (a m G : Nat) : Nat := Bool.rec (Bool.rec (z_ck L a m b G) (z_eA a m G) (Nat.ble G L)) (nat_lit 1) (Nat.beq G (nat_lit 1))
noncomputable def z_lz (q a e P : Nat) : Nat := Bool.rec (Nat.sub (z_pwB a e q) (nat_lit 1)) (nat_lit 1) (Nat.beq P (nat_lit 1))
noncomputable def z_sm (q y G p : Nat) : Nat := Bool.rec (Nat.sub (Nat.mod (Nat.pow y (Nat.mul (nat_lit 2) (Nat.div G p))) q) (nat_lit 1)) (nat_lit 1) (Nat.beq (Nat.gcd G p) (nat_lit 1))
noncomputable def z_jc (q y G : Nat) : Nat := Nat.mul (z_sm q y G (nat_lit 3)) (Nat.mul (z_sm q y G (nat_lit 5)) (z_sm q y G (nat_lit 7)))
noncomputable def z_jj (q y G : Nat) : Nat := Nat.mul (Nat.sub (Nat.mod (Nat.pow y G) q) (nat_lit 1)) (Bool.rec (Bool.rec (z_jc q y G) (Nat.sub (Nat.mod (Nat.mul y y) q) (nat_lit 1)) (Nat.ble G (nat_lit 8))) (nat_lit 1) (Nat.beq G (nat_lit 1)))
noncomputable def z_jA (a m q G : Nat) : Nat := z_jj q (z_pwA a (Nat.div m (Nat.mul (nat_lit 2) G)) q) G
theorem z_m (g u v c q : Nat) : ((g ^ u % q) ^ c * g ^ v) % q = g ^ (c * u + v) % q := by
  rw [Nat.mul_mod, ← Nat.pow_mod, ← Nat.mul_mod, ← Nat.pow_mul, ← Nat.pow_add, Nat.mul_comm u c]
theorem z_pwA_e (a e q : Nat) : z_pwA a e q = a ^ e % q := by
  show (((a ^ (e >>> 14) % q) ^ 128 * a ^ ((e >>> 7) % 128) % q) ^ 128 * a ^ (e % 128)) % q = _
  rw [z_m, z_m, Nat.shiftRight_eq_div_pow, Nat.shiftRight_eq_div_pow]
  congr 2
  omega
theorem z_pwB_e (a e q : Nat) : z_pwB a e q = a ^ e % q := by
  show ((a ^ (e >>> 8) % q) ^ 256 * a ^ (e % 256)) % q = _
  rw [z_m, Nat.shiftRight_eq_div_pow]
  congr 2
  omega
/-- a to the m-th by p leaves neither 0 nor 1 -/
def zR (a m p : Nat) : Prop := 2 ≤ a ^ (m / p) % (m + 1)
theorem z_eA_e {a m c : Nat} (h : z_eA a m c ≠ 0) : zR a m c := by
  have e : z_eA a m c = z_pwA a (m / c) (m + 1) - 1 := rfl
  rw [e, z_pwA_e] at h
  unfold zR
  omega
theorem z_pr {p G lo : Nat} (hp : PN p) (hG : ∀ r, PN r → r ∣ G → lo ≤ r) (hL : G < lo * lo) (hg : 1 ≤ G) (hd : p ∣ G) : p = G := by
  obtain ⟨c, rfl⟩ := hd
  by_cases c2 : 2 ≤ c
  · obtain ⟨r, hr, dr⟩ := pn_ex c c2
    have l1 := hG p hp (Nat.dvd_mul_right p c)
    have l2 := hG r hr (Nat.dvd_trans dr (Nat.dvd_mul_left c p))
    have l3 := Nat.le_of_dvd (by omega) dr
    have l4 : lo * lo ≤ p * c := Nat.mul_le_mul l1 (Nat.le_trans l2 l3)
    omega
  · have c0 : c ≠ 0 := fun z => by rw [z, Nat.mul_zero] at hg; omega
    have c1 : c = 1 := by omega
    rw [c1, Nat.mul_one]
theorem z_no1 {p : Nat} (hp : PN p) (hd : p ∣ 1) : False := by
  have := Nat.le_of_dvd (by omega) hd
  have := hp.1
  omega
theorem z_lf_e {lo a m G : Nat} (hG : ∀ r, PN r → r ∣ G → lo ≤ r) (hL : G < lo * lo) (hg : 1 ≤ G) (h : z_lf a m G ≠ 0) {p : Nat} (hp : PN p) (hd : p ∣ G) : zR a m p := by
  have e : z_lf a m G = if Nat.beq G (nat_lit 1) = true then (nat_lit 1) else z_eA a m G := z_if
  rw [e] at h
  by_cases g1 : Nat.beq G (nat_lit 1) = true
  · have g2 : G = 1 := Nat.eq_of_beq_eq_true g1
    rw [g2] at hd
    exact (z_no1 hp hd).elim
  · rw [if_neg g1] at h
    rw [z_pr hp hG hL hg hd]
    exact z_eA_e h
theorem z_mz {x y : Nat} (h : Nat.mul x y ≠ 0) : x ≠ 0 ∧ y ≠ 0 := ⟨fun z => h (by rw [z]; exact Nat.zero_mul y), fun z => h (by rw [z]; exact Nat.mul_zero x)⟩
theorem z_ck_e {L lo a m : Nat} (hL : L < lo * lo) : ∀ (bs : List Nat) (G : Nat), 1 ≤ G → (∀ r, PN r → r ∣ G → lo ≤ r) → z_ck L a m bs G ≠ 0 → ∀ p, PN p → p ∣ G → zR a m p
  | [], G, g1, hG, h => by
    have e : z_ck L a m [] G = if Nat.ble G L = true then z_lf a m G else (nat_lit 0) := z_if
    rw [e] at h
    by_cases b : Nat.ble G L = true
    · rw [if_pos b] at h
      intro p hp hd
      exact z_lf_e hG (Nat.lt_of_le_of_lt (Nat.le_of_ble_eq_true b) hL) g1 h hp hd
    · rw [if_neg b] at h; exact absurd rfl h
  | x :: bs, G, g1, hG, h => by
    have e : z_ck L a m (x :: bs) G = if Nat.ble G L = true then z_lf a m G else Nat.mul (z_ck L a m bs (Nat.gcd G x)) (z_ck L a m bs (Nat.div G (Nat.gcd G x))) := z_if
    rw [e] at h
    intro p hp hd
    by_cases b : Nat.ble G L = true
    · rw [if_pos b] at h
      exact z_lf_e hG (Nat.lt_of_le_of_lt (Nat.le_of_ble_eq_true b) hL) g1 h hp hd
    · rw [if_neg b] at h
      obtain ⟨h1, h2⟩ := z_mz h
      have gd : Nat.gcd G x ∣ G := Nat.gcd_dvd_left G x
      have gp : 1 ≤ Nat.gcd G x := Nat.gcd_pos_of_pos_left x g1
      have dd : Nat.div G (Nat.gcd G x) ∣ G := Nat.div_dvd_of_dvd gd
      have em : G / Nat.gcd G x * Nat.gcd G x = G := Nat.div_mul_cancel gd
      rw [← em] at hd
      rcases hp.mul hd with q | q
      · exact z_ck_e hL bs _ (Nat.div_pos (Nat.le_of_dvd g1 gd) gp) (fun r hr dr => hG r hr (Nat.dvd_trans dr dd)) h2 p hp q
      · exact z_ck_e hL bs _ gp (fun r hr dr => hG r hr (Nat.dvd_trans dr gd)) h1 p hp q
theorem z_ly_e {L lo a m G : Nat} {b : List Nat} (hL : L < lo * lo) (g1 : 1 ≤ G) (hG : ∀ r, PN r → r ∣ G → lo ≤ r) (h : z_ly L b a m G ≠ 0) {p : Nat} (hp : PN p) (hd : p ∣ G) : zR a m p := by
  have e : z_ly L b a m G = if Nat.beq G (nat_lit 1) = true then (nat_lit 1) else if Nat.ble G L = true then z_eA a m G else z_ck L a m b G := by unfold z_ly; rw [z_if, z_if]
  rw [e] at h
  by_cases q : Nat.beq G (nat_lit 1) = true
  · have g2 : G = 1 := Nat.eq_of_beq_eq_true q
    rw [g2] at hd
    exact (z_no1 hp hd).elim
  · rw [if_neg q] at h
    by_cases b : Nat.ble G L = true
    · rw [if_pos b] at h
      rw [z_pr hp hG (Nat.lt_of_le_of_lt (Nat.le_of_ble_eq_true b) hL) g1 hd]
      exact z_eA_e h
    · rw [if_neg b] at h
      exact z_ck_e hL _ G g1 hG h p hp hd
theorem z_sm_e {q y G p : Nat} (h : z_sm q y G p ≠ 0) (hd : p ∣ G) (h2 : 2 ≤ p) : 2 ≤ y ^ (2 * (G / p)) % q := by
  have e : z_sm q y G p = if Nat.beq (Nat.gcd G p) (nat_lit 1) = true then (nat_lit 1) else Nat.sub (Nat.mod (Nat.pow y (Nat.mul (nat_lit 2) (Nat.div G p))) q) (nat_lit 1) := z_if
  rw [e, if_neg fun z => by
    have z1 : Nat.gcd G p = 1 := Nat.eq_of_beq_eq_true z
    rw [Nat.gcd_eq_right hd] at z1
    omega] at h
  have h' : y ^ (2 * (G / p)) % q - 1 ≠ 0 := h
  omega
theorem z_357 : ∀ G, G < 9 → ∀ p, p < 8 → 2 ≤ p → 105 % G = 0 → G % p = 0 → G = p := by decide
theorem z_jA_e {a m : Nat} (h : z_jA a m (m + 1) (Nat.gcd m 105) ≠ 0) (h2 : 2 ∣ m) (hm : 1 ≤ m) : zR a m 2 ∧ ∀ p, (p = 3 ∨ p = 5 ∨ p = 7) → p ∣ m → zR a m p := by
  have dG : Nat.gcd m 105 ∣ m := Nat.gcd_dvd_left m 105
  have d105 : Nat.gcd m 105 ∣ 105 := Nat.gcd_dvd_right m 105
  have in3 : ∀ p, (p = 3 ∨ p = 5 ∨ p = 7) → p ∣ m → p ∣ Nat.gcd m 105 := fun p hp hd => Nat.dvd_gcd hd (by rcases hp with rfl | rfl | rfl <;> decide)
  generalize Nat.gcd m 105 = G at *
  have gp : 1 ≤ G := Nat.pos_of_dvd_of_pos dG hm
  have d2 : 2 * G ∣ m := Nat.Coprime.mul_dvd_of_dvd_of_dvd (Nat.Coprime.coprime_dvd_right d105 (by decide)) h2 dG
  obtain ⟨s, rfl⟩ := d2
  have es : 2 * G * s / (2 * G) = s := Nat.mul_div_cancel_left s (by omega)
  have e : z_jA a (2 * G * s) (2 * G * s + 1) G = z_jj (2 * G * s + 1) (z_pwA a (2 * G * s / (2 * G)) (2 * G * s + 1)) G := rfl
  rw [e, es, z_pwA_e] at h
  have key : ∀ k p, 1 ≤ p → k * p = 2 * G → 2 ≤ (a ^ s % (2 * G * s + 1)) ^ k % (2 * G * s + 1) → zR a (2 * G * s) p := by
    intro k p hp hk h
    unfold zR
    rw [← Nat.pow_mod, ← Nat.pow_mul] at h
    have : 2 * G * s / p = s * k := by
      rw [← hk, Nat.mul_comm k p, Nat.mul_assoc, Nat.mul_div_cancel_left _ hp, Nat.mul_comm]
    rw [this]
    exact h
  generalize a ^ s % (2 * G * s + 1) = y at *
  have ej : z_jj (2 * G * s + 1) y G = Nat.mul (Nat.sub (Nat.mod (Nat.pow y G) (2 * G * s + 1)) (nat_lit 1)) (if Nat.beq G (nat_lit 1) = true then (nat_lit 1) else if Nat.ble G (nat_lit 8) = true then Nat.sub (Nat.mod (Nat.mul y y) (2 * G * s + 1)) (nat_lit 1) else z_jc (2 * G * s + 1) y G) := by unfold z_jj; rw [z_if, z_if]
  rw [ej] at h
  obtain ⟨ha, hb⟩ := z_mz h
  have ha' : y ^ G % (2 * G * s + 1) - 1 ≠ 0 := ha
  refine ⟨key G 2 (by omega) (Nat.mul_comm G 2) (by omega), fun p hp hd => ?_⟩
  have pd := in3 p hp hd
  have p27 : 2 ≤ p ∧ p < 8 := by omega
  by_cases q : Nat.beq G (nat_lit 1) = true
  · have g2 : G = 1 := Nat.eq_of_beq_eq_true q
    rw [g2] at pd
    have := Nat.le_of_dvd (by omega) pd
    omega
  rw [if_neg q] at hb
  by_cases b : Nat.ble G (nat_lit 8) = true
  · rw [if_pos b] at hb
    have b8 : G ≤ 8 := Nat.le_of_ble_eq_true b
    have gq := z_357 G (by omega) p p27.2 p27.1 (Nat.mod_eq_zero_of_dvd d105) (Nat.mod_eq_zero_of_dvd pd)
    have hb' : y * y % (2 * G * s + 1) - 1 ≠ 0 := hb
    exact key 2 p (by omega) (by rw [gq]) (by rw [Nat.pow_two]; omega)
  · rw [if_neg b] at hb
    have ec : z_jc (2 * G * s + 1) y G = Nat.mul (z_sm (2 * G * s + 1) y G 3) (Nat.mul (z_sm (2 * G * s + 1) y G 5) (z_sm (2 * G * s + 1) y G 7)) := rfl
    rw [ec] at hb
    obtain ⟨b3, hb2⟩ := z_mz hb
    obtain ⟨b5, b7⟩ := z_mz hb2
    have one : ∀ r, z_sm (2 * G * s + 1) y G r ≠ 0 → 2 ≤ r → r ∣ G → zR a (2 * G * s) r := fun r h r2 rd => key (2 * (G / r)) r (by omega) (by rw [Nat.mul_assoc, Nat.div_mul_cancel rd]) (z_sm_e h rd r2)
    rcases hp with rfl | rfl | rfl
    · exact one 3 b3 (by omega) pd
    · exact one 5 b5 (by omega) pd
    · exact one 7 b7 (by omega) pd
