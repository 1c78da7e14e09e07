/-! each prime that is needed has a base -/
theorem z_all {q n : Nat} (hq : PN q) (h1 : 101 ≤ q) (hN : q ≤ 500000001) (od : q % 2 = 1) (hn : PN n) (nN : n ≤ 1000000000) (n3 : 3 ≤ n) (on : n % 2 = 1) (h : q ∣ n - 1 ∨ q ∣ n + 1) : zG q := by
  by_cases a : q < 36001
  · exact zSm_all q hq h1 a od
  by_cases b : q < 4000 * 31251
  · exact zTE_all q hq (by omega) b od (by omega) (by omega)
  obtain ⟨k, k2, k0, kN, kp⟩ := z_k od on n3 hn nN h
  have k8 := z_kle (b := 4000 * 31251) (c := 8) kN (by omega) (by decide)
  by_cases c : q < 4000 * 41667
  · exact zTC_all q ⟨hq, z_FC kp (by omega)⟩ (by omega) c od (by omega) (by omega)
  have k6 := z_kle (b := 4000 * 41667) (c := 6) kN (by omega) (by decide)
  by_cases d : q < 4000 * 62501
  · exact zTB_all q ⟨hq, z_FB kp (by omega)⟩ (by omega) d od (by omega) (by omega)
  have k4 := z_kle (b := 4000 * 62501) (c := 4) kN (by omega) (by decide)
  exact zTA_all q ⟨hq, z_FA kp (by omega)⟩ (by omega) (by omega) od (by omega) (by omega)
theorem z_odd {q : Nat} (hq : PN q) (h : 3 ≤ q) : q % 2 = 1 := by
  rcases Nat.mod_two_eq_zero_or_one q with z | z
  · rcases hq.2 2 (Nat.dvd_of_mod_eq_zero z) with e | e <;> omega
  · exact z
theorem pr_ok : PRok := by
  intro q n hq h1 h2 hn okn hd
  obtain ⟨q, rfl⟩ := Int.eq_ofNat_of_zero_le (show 0 ≤ q by omega)
  have n2 := okn.1
  have nN := okn.2
  obtain ⟨n, rfl⟩ := Int.eq_ofNat_of_zero_le (show 0 ≤ n by omega)
  have pq := hq.pn
  have pn := hn.pn
  rw [Int.toNat_natCast] at pq pn
  have od := z_odd pq (by omega)
  have hd' : q ∣ n - 1 ∨ q ∣ n + 1 := by
    rcases hd with d | d
    · rw [show ((n : Int) - 1) = ((n - 1 : Nat) : Int) by omega] at d
      exact Or.inl (Int.natCast_dvd_natCast.mp d)
    · rw [show ((n : Int) + 1) = ((n + 1 : Nat) : Int) by omega] at d
      exact Or.inr (Int.natCast_dvd_natCast.mp d)
  have n3 : 3 ≤ n := by
    rcases hd' with d | d
    · have := Nat.le_of_dvd (by omega) d
      omega
    · have := Nat.le_of_dvd (by omega) d
      omega
  exact z_fd pq (by omega) od (by omega) (z_all pq (by omega) (by omega) od pn (by omega) n3 (z_odd pn n3) hd')
