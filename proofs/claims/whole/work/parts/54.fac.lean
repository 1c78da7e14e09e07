/-! the primes of a number -/
theorem dv_lt {r d : Int} (hd : 2 ≤ d) (hr : 1 ≤ r) : 0 ≤ r / d ∧ r / d < r ∧ 2 * (r / d) ≤ r := by
  have h0 : 0 ≤ r / d := Int.ediv_nonneg (by omega) (by omega)
  have h1 : r / d * d ≤ r := Int.ediv_mul_le r (by omega)
  have h2 : r / d * 2 ≤ r / d * d := Int.mul_le_mul_of_nonneg_left hd h0
  refine ⟨h0, by omega, by omega⟩
theorem dv_ex {r d : Int} (hd : 2 ≤ d) (hr : 1 ≤ r) (h : r % d = 0) : r / d * d = r ∧ 1 ≤ r / d := by
  have e : r / d * d = r := Int.ediv_mul_cancel (Int.dvd_of_emod_eq_zero h)
  refine ⟨e, ?_⟩
  have := dv_lt hd hr
  rcases Int.lt_or_le 0 (r / d) with q | q
  · omega
  · rw [show r / d = 0 by omega] at e; omega
def dvS (r d : Int) : Nat × Int := if h : 2 ≤ d ∧ 1 ≤ r ∧ r % d = 0 then ((dvS (r / d) d).1 + 1, (dvS (r / d) d).2) else (0, r)
termination_by r.toNat
decreasing_by all_goals (have := dv_lt h.1 h.2.1; omega)
theorem dvS_y {r d : Int} (hd : 2 ≤ d) (hr : 1 ≤ r) (h : r % d = 0) : dvS r d = ((dvS (r / d) d).1 + 1, (dvS (r / d) d).2) := by
  conv => lhs; rw [dvS]
  rw [dif_pos ⟨hd, hr, h⟩]
theorem dvS_n {r d : Int} (h : ¬ r % d = 0) : dvS r d = (0, r) := by rw [dvS, dif_neg (fun z => h z.2.2)]
theorem dvS_p {d : Int} (hd : 2 ≤ d) : ∀ (k : Nat) (r : Int), 1 ≤ r → r < 2 ^ k → 1 ≤ (dvS r d).2 ∧ d ^ (dvS r d).1 * (dvS r d).2 = r ∧ (dvS r d).2 % d ≠ 0 ∧ (dvS r d).2 ≤ r ∧ (dvS r d).1 < k := by
  intro k
  induction k with
  | zero => intro r h1 h2; simp at h2; omega
  | succ k ih =>
    intro r h1 h2
    by_cases q : r % d = 0
    · have a := dv_lt hd h1
      have b := dv_ex hd h1 q
      obtain ⟨c1, c2, c3, c4, c5⟩ := ih (r / d) b.2 (by rw [Int.pow_succ] at h2; omega)
      rw [dvS_y hd h1 q]
      refine ⟨c1, ?_, c3, ?_, Nat.succ_lt_succ c5⟩
      · show d ^ ((dvS (r / d) d).1 + 1) * (dvS (r / d) d).2 = r
        rw [Int.pow_succ, Int.mul_assoc, Int.mul_comm d, ← Int.mul_assoc, c2]
        exact b.1
      · show (dvS (r / d) d).2 ≤ r
        omega
    · rw [dvS_n q]
      exact ⟨h1, by rw [Int.pow_zero, Int.one_mul], q, Int.le_refl _, Nat.succ_pos _⟩
abbrev FE : Type := Int × Int
def facA : Nat → Int → Int → List FE
  | 0, _, r => if r < 2 then [] else [(r, 1)]
  | k + 1, d, r => if r < d * d then (if r < 2 then [] else [(r, 1)]) else if r % d = 0 then (d, ((dvS r d).1 : Int)) :: facA k (d + 1) (dvS r d).2 else facA k (d + 1) r
/-- all primes that divide n, rising, and how often -/
def facS (n : Int) : List FE := facA 65536 2 n
def noD (r d : Int) : Prop := ∀ e, 2 ≤ e → e < d → r % e ≠ 0
theorem noD_ge {r d : Int} (h : noD r d) (hr : 2 ≤ r) : d ≤ r := by
  rcases Int.lt_or_le r d with q | q
  · exact absurd Int.emod_self (h r hr q)
  · exact q
theorem noD_dv {r s d : Int} (h : noD r d) (hs : s ∣ r) : noD s d := fun e a b z => h e a b (Int.emod_eq_zero_of_dvd (Int.dvd_trans (Int.dvd_of_emod_eq_zero z) hs))
theorem noD_su {r d : Int} (h : noD r d) (q : r % d ≠ 0) : noD r (d + 1) := fun e a b z => by
  rcases Int.lt_or_le e d with y | y
  · exact h e a y z
  · have : e = d := by omega
    subst this
    exact q z
theorem noD_pr {r d : Int} (h : noD r d) (h2 : 2 ≤ r) (q : r < d * d) (hd : 0 ≤ d) : isP r := ⟨h2, fun e a b => by
  rcases Int.lt_or_le e d with y | y
  · exact h e a y
  · have := Int.mul_le_mul y y hd (by omega)
    omega⟩
theorem noD_dp {r d : Int} (h : noD r d) (h2 : 2 ≤ d) (q : r % d = 0) : isP d := ⟨h2, fun e a b z => by
  have : e * 2 ≤ e * e := Int.mul_le_mul_of_nonneg_left a (by omega)
  exact h e a (by omega) (Int.emod_eq_zero_of_dvd (Int.dvd_trans (Int.dvd_of_emod_eq_zero z) (Int.dvd_of_emod_eq_zero q)))⟩
def prE : List FE → Int
  | [] => 1
  | r :: l => r.1 ^ r.2.toNat * prE l
theorem pow2_le {p : Int} (hp : 2 ≤ p) : ∀ n : Nat, 2 ^ n ≤ p ^ n
  | 0 => by rw [Int.pow_zero, Int.pow_zero]; omega
  | n + 1 => by
    rw [Int.pow_succ, Int.pow_succ]
    have h1 : (0 : Int) < 2 ^ n := Int.pow_pos (by omega)
    exact Int.mul_le_mul (pow2_le hp n) hp (by omega) (by have := pow2_le hp n; omega)
/-- what a list of primes is -/
def fcOK (d r : Int) (l : List FE) : Prop := (∀ x ∈ l, isP x.1 ∧ d ≤ x.1 ∧ x.1 ∣ r ∧ 1 ≤ x.2 ∧ x.2 ≤ 30) ∧ l.Pairwise (fun x y => x.1 < y.1) ∧ prE l = r
theorem fac_end {r d : Int} (h : noD r d) (h1 : 1 ≤ r) (q : r < d * d) (hd : 2 ≤ d) : fcOK d r (if r < 2 then [] else [(r, 1)]) := by
  by_cases z : r < 2
  · rw [if_pos z]
    refine ⟨fun x hx => absurd hx List.not_mem_nil, List.Pairwise.nil, ?_⟩
    show (1 : Int) = r
    omega
  · rw [if_neg z]
    refine ⟨fun x hx => ?_, List.pairwise_singleton _ _, ?_⟩
    · rw [List.mem_singleton] at hx
      subst hx
      exact ⟨noD_pr h (by omega) q (by omega), noD_ge h (by omega), Int.dvd_refl _, by show (1 : Int) ≤ 1; omega, by show (1 : Int) ≤ 30; omega⟩
    · show r ^ 1 * 1 = r
      rw [Int.pow_succ, Int.pow_zero, Int.one_mul, Int.mul_one]
theorem fac_ok : ∀ (k : Nat) (d r : Int), d + k = 65538 → 2 ≤ d → 1 ≤ r → r < 2147483648 → noD r d → fcOK d r (facA k d r)
  | 0, d, r, hk, hd, h1, h2, hn => by
    unfold facA
    refine fac_end hn h1 ?_ hd
    have : d = 65538 := by omega
    subst this
    omega
  | k + 1, d, r, hk, hd, h1, h2, hn => by
    unfold facA
    by_cases q : r < d * d
    · rw [if_pos q]
      exact fac_end hn h1 q hd
    · rw [if_neg q]
      by_cases z : r % d = 0
      · rw [if_pos z]
        obtain ⟨c1, c2, c3, c4, c5⟩ := dvS_p hd 31 r h1 (by omega)
        have t1 : 1 ≤ (dvS r d).1 := by rw [dvS_y hd h1 z]; exact Nat.succ_pos _
        have dv : (dvS r d).2 ∣ r := ⟨d ^ (dvS r d).1, by rw [Int.mul_comm]; exact c2.symm⟩
        obtain ⟨i1, i2, i3⟩ := fac_ok k (d + 1) (dvS r d).2 (by omega) (by omega) c1 (by omega) (noD_su (noD_dv hn dv) c3)
        refine ⟨fun x hx => ?_, ?_, ?_⟩
        · rcases List.mem_cons.mp hx with rfl | hx
          · exact ⟨noD_dp hn hd z, Int.le_refl _, Int.dvd_of_emod_eq_zero z, by show (1 : Int) ≤ ((dvS r d).1 : Int); omega, by show ((dvS r d).1 : Int) ≤ 30; omega⟩
          · obtain ⟨a, b, c, e⟩ := i1 x hx
            exact ⟨a, by omega, Int.dvd_trans c dv, e⟩
        · exact List.Pairwise.cons (fun x hx => by have := (i1 x hx).2.1; show d < x.1; omega) i2
        · show d ^ (((dvS r d).1 : Int)).toNat * prE (facA k (d + 1) (dvS r d).2) = r
          rw [i3, Int.toNat_natCast]
          exact c2
      · rw [if_neg z]
        obtain ⟨i1, i2, i3⟩ := fac_ok k (d + 1) r (by omega) (by omega) h1 h2 (noD_su hn z)
        exact ⟨fun x hx => by obtain ⟨a, b, c, e⟩ := i1 x hx; exact ⟨a, by omega, c, e⟩, i2, i3⟩
theorem facS_ok {n : Int} (h1 : 1 ≤ n) (h2 : n < 2147483648) : fcOK 2 n (facS n) := fac_ok 65536 2 n (by omega) (by omega) h1 h2 fun e a b => by omega
/-! ### how many -/
def opr : Nat → Int → Int
  | 0, _ => 1
  | L + 1, d => d * opr L (d + 2)
theorem opr_p : ∀ (L : Nat) (d : Int), 1 ≤ d → 1 ≤ opr L d
  | 0, d, _ => by unfold opr; omega
  | L + 1, d, h => by
    unfold opr
    have := Int.mul_le_mul h (opr_p L (d + 2) (by omega)) (by omega) (by omega)
    omega
theorem opr_m : ∀ (L : Nat) (d e : Int), 1 ≤ d → d ≤ e → opr L d ≤ opr L e
  | 0, d, e, _, _ => by unfold opr; omega
  | L + 1, d, e, h, h2 => by
    unfold opr
    exact Int.mul_le_mul h2 (opr_m L (d + 2) (e + 2) (by omega) (by omega)) (by have := opr_p L (d + 2) (by omega); omega) (by omega)
theorem opr_s (L : Nat) (d : Int) (h : 1 ≤ d) : opr L d ≤ opr (L + 1) d := by
  have h1 := opr_m L d (d + 2) h (by omega)
  have h2 := opr_p L (d + 2) (by omega)
  have h3 : 1 * opr L (d + 2) ≤ d * opr L (d + 2) := Int.mul_le_mul_of_nonneg_right h (by omega)
  show opr L d ≤ d * opr L (d + 2)
  omega
theorem opr_l {L L' : Nat} (h : L ≤ L') : opr L 3 ≤ opr L' 3 := by
  induction h with
  | refl => exact Int.le_refl _
  | step h ih => exact Int.le_trans ih (opr_s _ 3 (by omega))
def upOdd (d : Int) : Int := if d % 2 = 0 then d + 1 else d
theorem fac_len : ∀ (k : Nat) (d r : Int), d + k = 65538 → 3 ≤ d → 1 ≤ r → r < 2147483648 → noD r d → r % 2 = 1 → opr (facA k d r).length (upOdd d) ≤ r := by
  have fin : ∀ d r : Int, 3 ≤ d → 1 ≤ r → noD r d → r % 2 = 1 → opr (if r < 2 then ([] : List FE) else [(r, 1)]).length (upOdd d) ≤ r := by
    intro d r hd h1 hn ho
    by_cases z : r < 2
    · rw [if_pos z]; exact h1
    · rw [if_neg z]
      have := noD_ge hn (by omega)
      show upOdd d * 1 ≤ r
      unfold upOdd
      split <;> omega
  intro k
  induction k with
  | zero =>
    intro d r hk hd h1 h2 hn ho
    unfold facA
    exact fin d r hd h1 hn ho
  | succ k ih =>
    intro d r hk hd h1 h2 hn ho
    unfold facA
    by_cases q : r < d * d
    · rw [if_pos q]
      exact fin d r hd h1 hn ho
    · rw [if_neg q]
      by_cases z : r % d = 0
      · rw [if_pos z]
        have od : d % 2 = 1 := by
          rcases Int.emod_two_eq d with y | y
          · have : (2 : Int) ∣ r := Int.dvd_trans (Int.dvd_of_emod_eq_zero y) (Int.dvd_of_emod_eq_zero z)
            have := Int.emod_eq_zero_of_dvd this
            omega
          · exact y
        obtain ⟨c1, c2, c3, c4, c5⟩ := dvS_p (d := d) (by omega) 31 r h1 (by omega)
        have t1 : (dvS r d).1 = ((dvS r d).1 - 1) + 1 := by
          have : 1 ≤ (dvS r d).1 := by rw [dvS_y (by omega) h1 z]; exact Nat.succ_pos _
          omega
        have dv : (dvS r d).2 ∣ r := ⟨d ^ (dvS r d).1, by rw [Int.mul_comm]; exact c2.symm⟩
        have so : (dvS r d).2 % 2 = 1 := by
          rcases Int.emod_two_eq (dvS r d).2 with y | y
          · have := Int.emod_eq_zero_of_dvd (Int.dvd_trans (Int.dvd_of_emod_eq_zero y) dv)
            omega
          · exact y
        have i := ih (d + 1) (dvS r d).2 (by omega) (by omega) c1 (by omega) (noD_su (noD_dv hn dv) c3) so
        have u1 : upOdd (d + 1) = d + 2 := by unfold upOdd; rw [if_pos (by omega)]; omega
        have u0 : upOdd d = d := by unfold upOdd; rw [if_neg (by omega)]
        rw [u1] at i
        rw [u0]
        show d * opr (facA k (d + 1) (dvS r d).2).length (d + 2) ≤ r
        have h3 : d * opr (facA k (d + 1) (dvS r d).2).length (d + 2) ≤ d * (dvS r d).2 := Int.mul_le_mul_of_nonneg_left i (by omega)
        have h4 : d * (dvS r d).2 ≤ r := by
          have pp : (0 : Int) < d ^ ((dvS r d).1 - 1) := Int.pow_pos (by omega)
          have h5 : 1 * (d * (dvS r d).2) ≤ d ^ ((dvS r d).1 - 1) * (d * (dvS r d).2) := Int.mul_le_mul_of_nonneg_right (by omega) (Int.mul_nonneg (by omega) (by omega))
          have h6 : d ^ ((dvS r d).1 - 1) * (d * (dvS r d).2) = r := by
            rw [← Int.mul_assoc, ← Int.pow_succ, ← Nat.succ_eq_add_one] at *
            rw [show ((dvS r d).1 - 1).succ = (dvS r d).1 by omega]
            exact c2
          omega
        omega
      · rw [if_neg z]
        have i := ih (d + 1) r (by omega) (by omega) h1 h2 (noD_su hn z) ho
        refine Int.le_trans (opr_m _ _ _ ?_ ?_) i
        · unfold upOdd; split <;> omega
        · unfold upOdd; split <;> split <;> omega
theorem noD3 {r : Int} (h : r % 2 = 1) : noD r 3 := fun e x y z => by
  have : e = 2 := by omega
  subst this
  omega
theorem facS_len {n : Int} (h1 : 1 ≤ n) (h2 : n ≤ 1000000001) : (facS n).length ≤ 9 := by
  have big : opr 10 3 = 13749310575 := by decide
  have big9 : opr 9 3 = 654729075 := by decide
  have main : ∀ r : Int, 1 ≤ r → r ≤ 1000000001 → r % 2 = 1 → (facA 65535 3 r).length ≤ 9 := by
    intro r a b c
    have i := fac_len 65535 3 r (by omega) (by omega) a (by omega) (noD3 c) c
    have u : upOdd 3 = 3 := rfl
    rw [u] at i
    rcases Nat.lt_or_ge 9 (facA 65535 3 r).length with q | q
    · have : opr 10 3 ≤ opr (facA 65535 3 r).length 3 := opr_l (L := 10) q
      omega
    · exact q
  show (facA (65535 + 1) 2 n).length ≤ 9
  unfold facA
  by_cases q : n < 2 * 2
  · rw [if_pos q]
    split
    · exact Nat.zero_le _
    · exact (by decide : 1 ≤ 9)
  · rw [if_neg q]
    by_cases z : n % 2 = 0
    · rw [if_pos z]
      obtain ⟨c1, c2, c3, c4, c5⟩ := dvS_p (d := 2) (by omega) 31 n h1 (by omega)
      have so : (dvS n 2).2 % 2 = 1 := by omega
      have i := fac_len 65535 3 (dvS n 2).2 (by omega) (by omega) c1 (by omega) (noD3 so) so
      have u : upOdd 3 = 3 := rfl
      rw [u] at i
      have b2 : 2 * (dvS n 2).2 ≤ n := by
        rw [dvS_y (by omega) h1 z]
        obtain ⟨e1, e2, e3, e4, e5⟩ := dvS_p (d := 2) (by omega) 31 (n / 2) (by omega) (by omega)
        show 2 * (dvS (n / 2) 2).2 ≤ n
        omega
      show (facA 65535 (2 + 1) (dvS n 2).2).length + 1 ≤ 9
      rw [show (2 : Int) + 1 = 3 from rfl]
      rcases Nat.lt_or_ge 8 (facA 65535 3 (dvS n 2).2).length with y | y
      · have y9 : opr 9 3 ≤ opr (facA 65535 3 (dvS n 2).2).length 3 := opr_l (L := 9) y
        omega
      · omega
    · rw [if_neg z]
      exact main n h1 h2 (by omega)
/-- even places are passed over -/
theorem fac_skip {k : Nat} {d r : Int} (hn : noD r d) (hd : 3 ≤ d) (h1 : 1 ≤ r) (he : d % 2 = 0) (hk : d + (k + 1 : Nat) = 65538) (hr : r < 2147483648) : facA (k + 1) d r = facA k (d + 1) r := by
  have q2 : r % d ≠ 0 := fun z => by
    have : (2 : Int) ∣ r := Int.dvd_trans (Int.dvd_of_emod_eq_zero he) (Int.dvd_of_emod_eq_zero z)
    exact hn 2 (by omega) (by omega) (Int.emod_eq_zero_of_dvd this)
  conv => lhs; unfold facA
  by_cases q : r < d * d
  · rw [if_pos q]
    have : d * d ≤ (d + 1) * (d + 1) := Int.mul_le_mul (by omega) (by omega) (by omega) (by omega)
    cases k with
    | zero => rfl
    | succ k =>
      conv => rhs; unfold facA
      conv => rhs; rw [if_pos (show r < (d + 1) * (d + 1) by omega)]
  · rw [if_neg q, if_neg q2]
/-- of a prime nothing but itself is found -/
theorem fac_prime : ∀ (k : Nat) (d r : Int), d + k = 65538 → 2 ≤ d → isP r → noD r d → facA k d r = [(r, 1)]
  | 0, d, r, hk, hd, hp, hn => by unfold facA; rw [if_neg (by have := hp.1; omega)]
  | k + 1, d, r, hk, hd, hp, hn => by
    unfold facA
    by_cases q : r < d * d
    · rw [if_pos q, if_neg (by have := hp.1; omega)]
    · have z := hp.2 d hd (by omega)
      rw [if_neg q, if_neg z]
      exact fac_prime k (d + 1) r (by omega) (by omega) hp (noD_su hn z)
/-! ### the factors of the class -/
def ge (l : List FE) (i : Nat) : FE := l.getD i (0, 0)
theorem ge_dr {l : List FE} {i : Nat} (h : i < l.length) : l.drop i = ge l i :: l.drop (i + 1) := by
  rw [List.drop_eq_getElem_cons h]
  unfold ge
  rw [List.getD_eq_getElem?_getD, List.getElem?_eq_getElem h]
  rfl
theorem ge_mem {l : List FE} {i : Nat} (h : i < l.length) : ge l i ∈ l := by
  unfold ge
  rw [List.getD_eq_getElem?_getD, List.getElem?_eq_getElem h]
  exact List.getElem_mem h
theorem ge_app {l : List FE} {r : FE} {j : Nat} (hj : j < (l ++ [r]).length) : ge (l ++ [r]) j = if j = l.length then r else ge l j := by
  unfold ge
  rw [List.getD_eq_getElem?_getD, List.getD_eq_getElem?_getD]
  rw [List.length_append] at hj
  by_cases q : j = l.length
  · subst q; rw [if_pos rfl, List.getElem?_append_right (Nat.le_refl _), Nat.sub_self]; rfl
  · rw [if_neg q, List.getElem?_append_left (by simp at hj; omega)]
def FO (h : AH) (o : Int) : Prop := hTy h o = 1 ∧ hCe h o 0 = o + 1 ∧ hCe h o 1 = o + 2 ∧ hTy h (o + 1) = 21 ∧ hLn h (o + 1) = 9 ∧ hTy h (o + 2) = 21 ∧ hLn h (o + 2) = 9
theorem Sh.fo {h : AH} (H : Sh h) {o : Int} (ho : o = 7 ∨ o = 10 ∨ o = 24) : FO h o := by
  rcases ho with rfl | rfl | rfl
  · exact ⟨H.t7, H.p7_0, H.p7_1, H.t8, H.l8, H.t9, H.l9⟩
  · exact ⟨H.t10, H.p10_0, H.p10_1, H.t11, H.l11, H.t12, H.l12⟩
  · exact ⟨H.t24, H.p24_0, H.p24_1, H.t25, H.l25, H.t26, H.l26⟩
def FK (o b j : Int) : Prop := (b = o ∧ j = 2) ∨ b = o + 1 ∨ b = o + 2
theorem FK.mut {o b j : Int} (ho : o = 7 ∨ o = 10 ∨ o = 24) (h : FK o b j) : Mut b j := mutB (by
  unfold FK at h; unfold MutB
  rcases ho with rfl | rfl | rfl <;> rcases h with ⟨rfl, rfl⟩ | rfl | rfl <;> omega)
def FD (h : AH) (o : Int) (l : List FE) : Prop := FO h o ∧ hCe h o 2 = (l.length : Int) ∧ l.length ≤ 9 ∧ ∀ i : Nat, i < l.length → hCe h (o + 1) i = (ge l i).1 ∧ hCe h (o + 2) i = (ge l i).2
theorem FO.of {h h' : AH} {o : Int} (S : FO h o) (q : Same h h') (c0 : hCe h' o 0 = hCe h o 0) (c1 : hCe h' o 1 = hCe h o 1) : FO h' o := by
  unfold FO at *
  rw [q.ty, q.ty, q.ty, q.ln, q.ln, c0, c1]
  exact S
theorem FD.fr {P : Int → Int → Prop} {h h' : AH} {o : Int} {l : List FE} (D : FD h o l) (F : Fr P h h') (q : ∀ j, 0 ≤ j → ¬ P o j) (q1 : ∀ j, ¬ P (o + 1) j) (q2 : ∀ j, ¬ P (o + 2) j) : FD h' o l := by
  refine ⟨D.1.of F.1 (F.2 _ _ (q _ (by omega))) (F.2 _ _ (q _ (by omega))), (F.2 _ _ (q _ (by omega))).trans D.2.1, D.2.2.1, fun i hi => ?_⟩
  rw [F.2 _ _ (q1 _), F.2 _ _ (q2 _)]
  exact D.2.2.2 i hi
theorem s_add {h : AH} {o p e : Int} {l : List FE} (D : FD h o l) (h9 : l.length < 9) : ∃ h', Factors_add o p e h = some h' ∧ Fr (FK o) h h' ∧ FD h' o (l ++ [(p, e)]) := by
  obtain ⟨⟨t0, p0, p1, t1, l1, t2, l2⟩, sz, -, cs⟩ := D
  refine ⟨hSet (hSet (hSet h (o + 1) (l.length : Int) p) (o + 2) (l.length : Int) e) o 2 ((l.length : Int) + 1), ?_, ?_, ?_⟩
  · unfold Factors_add
    simp (disch := omega) only [gdT, gdS, true_and, and_true, tS, lS, cS, cN, Option.bind_some, t0, p0, p1, t1, l1, t2, l2, sz, if_pos, w32_e]
  · refine Fr.setT (Fr.setT (Fr.set ?_) ?_) ?_ <;> (unfold FK; omega)
  · refine ⟨⟨t0, by rw [cN (by omega), cN (by omega), cN (by omega)]; exact p0, by rw [cN (by omega), cN (by omega), cN (by omega)]; exact p1, t1, l1, t2, l2⟩, by rw [cS, List.length_append]; rfl, by rw [List.length_append]; exact h9, fun i hi => ?_⟩
    rw [ge_app hi]
    by_cases q : i = l.length
    · subst q
      rw [if_pos rfl]
      refine ⟨?_, ?_⟩
      · rw [cN (by omega), cN (by omega)]; exact cS _ _ _ _
      · rw [cN (by omega)]; exact cS _ _ _ _
    · rw [if_neg q, cN (by omega), cN (by omega), cN (by omega), cN (by omega), cN (by omega), cN (by omega)]
      rw [List.length_append] at hi
      exact cs i (by simp at hi; omega)
theorem td_loop {d : Int} (hd : 2 ≤ d) : ∀ (k f : Nat) (r t s : Int), 1 ≤ r → r < 2 ^ k → k < f → 0 ≤ t → t + k ≤ 40 → 0 ≤ s → s + k ≤ 31 → Arithmetic_timesDivides_19 f d r t s = some (t + ((dvS r d).1 : Int)) := by
  intro k
  induction k with
  | zero => intro f r t s h1 h2; simp at h2; omega
  | succ k ih =>
    intro f r t s h1 h2 hf a1 a2 a3 a4
    obtain ⟨f, rfl, hf⟩ := fu_pos hf
    have l := dv_lt hd h1
    have r31 : r < 2147483648 := by
      have : (2 : Int) ^ (k + 1) ≤ 2 ^ 31 := by
        have := Nat.pow_le_pow_right (n := 2) (by omega) (show k + 1 ≤ 31 by omega)
        exact_mod_cast this
      omega
    unfold Arithmetic_timesDivides_19
    refine ifT (by omega) ?_
    rw [tm_e (by omega), td_e (by omega)]
    refine gB (by omega) ?_
    by_cases q : r % d = 0
    · have b := dv_ex hd h1 q
      refine ifT q ?_
      refine gB (by omega) ?_
      rw [w32_e (by omega), w32_e (by omega), w32_e (by omega), ih f (r / d) (t + 1) (s + 1) b.2 (by rw [Int.pow_succ] at h2; omega) (by omega) (by omega) (by omega) (by omega) (by omega), dvS_y hd h1 q]
      congr 1
      show t + 1 + ((dvS (r / d) d).1 : Int) = t + (((dvS (r / d) d).1 + 1 : Nat) : Int)
      omega
    · refine ifF q ?_
      rw [dvS_n q]
      show some t = some (t + 0)
      rw [Int.add_zero]
theorem s_timesDivides {r d : Int} (hr : 1 ≤ r ∧ r < 2147483648) (hd : 2 ≤ d) : Arithmetic_timesDivides r d = some ((dvS r d).1 : Int) := by
  unfold Arithmetic_timesDivides
  refine ifF (by omega) ?_
  refine ifF (by omega) ?_
  rw [td_loop hd 31 FU r 0 0 hr.1 (by omega) (fu_big (by omega)) (by omega) (by omega) (by omega) (by omega), Int.zero_add]
theorem ta_loop {d : Int} {h : AH} (hd : 2 ≤ d) : ∀ (t f : Nat) (r i n : Int), 1 ≤ r → r < 2147483648 → (dvS r d).1 = t → i + t = n → 0 ≤ i → n ≤ 100 → t < f → Factors_takeAll_18 f d n r i h = some ((dvS r d).2, h) := by
  intro t
  induction t with
  | zero =>
    intro f r i n h1 h2 ht hi h0 hn hf
    obtain ⟨f, rfl, -⟩ := fu_pos hf
    unfold Factors_takeAll_18
    refine ifF (by omega) ?_
    by_cases q : r % d = 0
    · rw [dvS_y hd h1 q] at ht; exact absurd ht (Nat.succ_ne_zero _)
    · rw [dvS_n q]
  | succ t ih =>
    intro f r i n h1 h2 ht hi h0 hn hf
    obtain ⟨f, rfl, hf⟩ := fu_pos hf
    have l := dv_lt hd h1
    by_cases q : r % d = 0
    · have b := dv_ex hd h1 q
      rw [dvS_y hd h1 q] at ht ⊢
      unfold Factors_takeAll_18
      refine ifT (by omega) ?_
      refine ifT (by omega) ?_
      rw [td_e (by omega), w32_e (by omega), w32_e (by omega)]
      refine gB (by omega) ?_
      exact ih f (r / d) (i + 1) n b.2 (by omega) (Nat.succ.inj ht) (by omega) (by omega) hn (by omega)
    · rw [dvS_n q] at ht; exact absurd (show 0 = t + 1 from ht) (by omega)
theorem s_takeAll {h : AH} {o r d : Int} {l : List FE} (D : FD h o l) (h9 : l.length < 9) (hd : 2 ≤ d) (hr : 1 ≤ r ∧ r < 2147483648) : ∃ h', Factors_takeAll o r d h = some ((dvS r d).2, h') ∧ Fr (FK o) h h' ∧ FD h' o (l ++ [(d, ((dvS r d).1 : Int))]) := by
  obtain ⟨h1, e1, F1, D1⟩ := s_add D h9 (p := d) (e := ((dvS r d).1 : Int))
  have t := (dvS_p hd 31 r hr.1 (by omega)).2.2.2.2
  refine ⟨h1, ?_, F1, D1⟩
  unfold Factors_takeAll
  refine cB (s_timesDivides hr hd) ?_
  refine gB D.1.1 ?_
  refine cB e1 ?_
  exact ta_loop hd (dvS r d).1 FU r 0 _ hr.1 hr.2 rfl (by omega) (by omega) (by omega) (fu_big (by omega))
theorem s_split71 {h : AH} {o r : Int} {l : List FE} (D : FD h o l) (h1 : 1 ≤ r) (h9 : (l ++ (if r < 2 then [] else [(r, 1)])).length ≤ 9) : ∃ h', Factors_split_71 o r h = some h' ∧ Fr (FK o) h h' ∧ FD h' o (l ++ (if r < 2 then [] else [(r, 1)])) := by
  by_cases q : r < 2
  · rw [if_pos q, List.append_nil]
    refine ⟨h, ?_, Fr.rf, D⟩
    unfold Factors_split_71
    exact ifF (by omega) rfl
  · rw [if_neg q] at h9 ⊢
    obtain ⟨h', e', F', D'⟩ := s_add D (by rw [List.length_append] at h9; simp at h9; omega) (p := r) (e := 1)
    refine ⟨h', ?_, F', D'⟩
    unfold Factors_split_71
    refine ifT (by omega) ?_
    refine gB D.1.1 ?_
    exact cB e' rfl
theorem sp_loop (hM : MRok) {o : Int} : ∀ (n f k : Nat) (d r : Int) (l : List FE) (h : AH), k ≤ n → n < f → d + k = 65538 → 2 ≤ d → (d = 2 ∨ d % 2 = 1) → 1 ≤ r → r ≤ 1000000001 → noD r d → FD h o l → (l ++ facA k d r).length ≤ 9 → ∃ h', Factors_split_15 f o r (prS r) d h = some h' ∧ Fr (FK o) h h' ∧ FD h' o (l ++ facA k d r) := by
  intro n
  induction n with
  | zero =>
    intro f k d r l h hk hf hd h2 ho h1 hr hn D h9
    have hk0 : k = 0 := by omega
    subst hk0
    omega
  | succ n ih =>
    intro f k d r l h hk hf hd h2 ho h1 hr hn D h9
    obtain ⟨f, rfl, hf⟩ := fu_pos hf
    by_cases w : isP r
    · have fp := fac_prime k d r hd h2 w hn
      have r2 := w.1
      rw [fp] at h9 ⊢
      obtain ⟨h', e', F', D'⟩ := s_split71 (r := r) D h1 (by rw [if_neg (by omega)]; exact h9)
      rw [if_neg (by omega)] at D'
      refine ⟨h', ?_, F', D'⟩
      unfold Factors_split_15
      rw [prS_t w]
      exact ifF (by omega) e'
    · rw [prS_f w]
      cases k with
      | zero =>
        have d8 : d = 65538 := by omega
        subst d8
        have e : facA 0 65538 r = (if r < 2 then [] else [(r, 1)]) := rfl
        rw [e] at h9 ⊢
        obtain ⟨h', e', F', D'⟩ := s_split71 (r := r) D h1 h9
        refine ⟨h', ?_, F', D'⟩
        unfold Factors_split_15
        refine ifT rfl ?_
        rw [w64_e (by omega)]
        exact ifT (by omega) e'
      | succ k =>
        have mb := mul_bd (a := d) (b := d) (by omega) (by omega)
        by_cases q : r < d * d
        · have e : facA (k + 1) d r = (if r < 2 then [] else [(r, 1)]) := by unfold facA; rw [if_pos q]
          rw [e] at h9 ⊢
          obtain ⟨h', e', F', D'⟩ := s_split71 (r := r) D h1 h9
          refine ⟨h', ?_, F', D'⟩
          unfold Factors_split_15
          refine ifT rfl ?_
          rw [w64_e (by omega)]
          exact ifT q e'
        · have d31 : d < 40000 := by
            rcases Int.lt_or_le d 40000 with y | y
            · exact y
            · have := Int.mul_le_mul y y (by omega) (by omega)
              omega
          -- the next place
          have next : ∀ (r' : Int) (l' : List FE) (h1' : AH), 1 ≤ r' → r' ≤ 1000000001 → noD r' (d + 1) → FD h1' o l' → (l' ++ facA k (d + 1) r').length ≤ 9 → ∃ h', (if d = 2 then Factors_split_15 f o r' (prS r') (w32 (d + 1)) h1' else Factors_split_15 f o r' (prS r') (w32 (d + 2)) h1') = some h' ∧ Fr (FK o) h1' h' ∧ FD h' o (l' ++ facA k (d + 1) r') := by
            intro r' l' h1' a1 a2 a3 a4 a5
            rw [w32_e (by omega), w32_e (by omega)]
            by_cases z2 : d = 2
            · rw [if_pos z2]
              exact ih f k (d + 1) r' l' h1' (by omega) (by omega) (by omega) (by omega) (Or.inr (by omega)) a1 a2 a3 a4 a5
            · rw [if_neg z2]
              obtain ⟨k', rfl⟩ : ∃ k', k = k' + 1 := ⟨k - 1, by omega⟩
              have sk := fac_skip (k := k') a3 (by omega) a1 (by omega) (by omega) (by omega)
              rw [sk] at a5 ⊢
              have e2 : d + 1 + 1 = d + 2 := by omega
              rw [e2] at a5 ⊢
              have a6 : noD r' (d + 2) := by
                have := noD_su a3 (fun z => by
                  have y : (2 : Int) ∣ r' := Int.dvd_trans (Int.dvd_of_emod_eq_zero (show (d + 1) % 2 = 0 by omega)) (Int.dvd_of_emod_eq_zero z)
                  exact a3 2 (by omega) (by omega) (Int.emod_eq_zero_of_dvd y))
                rw [e2] at this
                exact this
              exact ih f k' (d + 2) r' l' h1' (by omega) (by omega) (by omega) (by omega) (Or.inr (by omega)) a1 a2 a6 a4 a5
          by_cases z : r % d = 0
          · have e : facA (k + 1) d r = (d, ((dvS r d).1 : Int)) :: facA k (d + 1) (dvS r d).2 := by
              conv => lhs; unfold facA
              rw [if_neg q, if_pos z]
            rw [e] at h9 ⊢
            obtain ⟨c1, c2, c3, c4, c5⟩ := dvS_p h2 31 r h1 (by omega)
            have dv : (dvS r d).2 ∣ r := ⟨d ^ (dvS r d).1, by rw [Int.mul_comm]; exact c2.symm⟩
            obtain ⟨h1', e1, F1, D1⟩ := s_takeAll D (by rw [List.length_append, List.length_cons] at h9; omega) h2 (r := r) (by omega)
            have ap : l ++ (d, ((dvS r d).1 : Int)) :: facA k (d + 1) (dvS r d).2 = (l ++ [(d, ((dvS r d).1 : Int))]) ++ facA k (d + 1) (dvS r d).2 := by rw [List.append_assoc]; rfl
            rw [ap] at h9 ⊢
            obtain ⟨h', e', F', D'⟩ := next (dvS r d).2 _ h1' c1 (by omega) (noD_su (noD_dv hn dv) c3) D1 h9
            refine ⟨h', ?_, F1.tr F', D'⟩
            unfold Factors_split_15
            refine ifT rfl ?_
            rw [w64_e (by omega)]
            refine ifF q ?_
            rw [tm_e (by omega)]
            refine gB (by omega) ?_
            refine ifT z ?_
            refine gB D.1.1 ?_
            refine cB e1 ?_
            refine cB (s_isPrime hM (by show (dvS r d).2 ≤ _; omega)) ?_
            exact e'
          · have e : facA (k + 1) d r = facA k (d + 1) r := by
              conv => lhs; unfold facA
              rw [if_neg q, if_neg z]
            rw [e] at h9 ⊢
            obtain ⟨h', e', F', D'⟩ := next r l h h1 hr (noD_su hn z) D h9
            rw [prS_f w] at e'
            refine ⟨h', ?_, F', D'⟩
            unfold Factors_split_15
            refine ifT rfl ?_
            rw [w64_e (by omega)]
            refine ifF q ?_
            rw [tm_e (by omega)]
            refine gB (by omega) ?_
            exact ifF z e'
theorem s_split (hM : MRok) {h : AH} {o n : Int} (O : FO h o) (h1 : 1 ≤ n) (h2 : n ≤ 1000000001) : ∃ h', Factors_split o n h = some h' ∧ Fr (FK o) h h' ∧ FD h' o (facS n) := by
  have D0 : FD (hSet h o 2 0) o [] := ⟨O.of Same.set (cN (by omega)) (cN (by omega)), cS _ _ _ _, Nat.zero_le _, fun i hi => absurd hi (Nat.not_lt_zero i)⟩
  obtain ⟨h', e', F', D'⟩ := sp_loop hM 65536 FU 65536 2 n [] (hSet h o 2 0) (Nat.le_refl _) (fu_big (by omega)) (by omega) (by omega) (Or.inl rfl) h1 h2 (fun e a b => by omega) D0 (by rw [List.nil_append]; exact facS_len h1 h2)
  refine ⟨h', ?_, (Fr.set (Or.inl ⟨rfl, rfl⟩)).tr F', D'⟩
  unfold Factors_split
  refine gB O.1 ?_
  refine cB (s_isPrime hM h2) ?_
  exact e'
