/-! Long.bitCount step by step -/
theorem bc_1 {n A N1 : Nat} (hn : n < 9223372036854775808) (q : A ≤ n / 2) (d : N1 = n - A) : w64 ((n : Int) - (A : Int)) = (N1 : Int) ∧ N1 < 9223372036854775808 := by
  rw [w64_e (by omega)]
  omega
theorem bc_2 {A B N : Nat} (a : A ≤ 3689348814741910323) (b : B ≤ 3689348814741910323) (d : N = A + B) : w64 ((A : Int) + (B : Int)) = (N : Int) ∧ N ≤ 7378697629483820646 := by
  rw [w64_e (by omega)]
  omega
theorem bc_3 {A B : Nat} (a : A ≤ 7378697629483820646) (b : B ≤ 1000000000000000000) : w64 ((A : Int) + (B : Int)) = ((A + B : Nat) : Int) := by
  rw [w64_e (by omega)]
  omega
theorem c5 : ((6148914691236517205 : Nat) : Int) = 6148914691236517205 := by omega
theorem c3' : ((3689348814741910323 : Nat) : Int) = 3689348814741910323 := by omega
theorem c0' : ((1085102592571150095 : Nat) : Int) = 1085102592571150095 := by omega
theorem an_c5 {n : Nat} (hn : n < 9223372036854775808) : andL (n : Int) 6148914691236517205 = ((n &&& 6148914691236517205 : Nat) : Int) := by
  rw [← c5]; exact andL_n hn (by omega)
theorem an_c3 {n : Nat} (hn : n < 9223372036854775808) : andL (n : Int) 3689348814741910323 = ((n &&& 3689348814741910323 : Nat) : Int) := by
  rw [← c3']; exact andL_n hn (by omega)
theorem an_c0 {n : Nat} (hn : n < 9223372036854775808) : andL (n : Int) 1085102592571150095 = ((n &&& 1085102592571150095 : Nat) : Int) := by
  rw [← c0']; exact andL_n hn (by omega)
theorem us_1 {n : Nat} (hn : n < 9223372036854775808) : ushrL (n : Int) 1 = ((n / 2 : Nat) : Int) := ushrL_n (b := 1) (by omega) hn
theorem us_2 {n : Nat} (hn : n < 9223372036854775808) : ushrL (n : Int) 2 = ((n / 4 : Nat) : Int) := ushrL_n (b := 2) (by omega) hn
theorem us_4 {n : Nat} (hn : n < 9223372036854775808) : ushrL (n : Int) 4 = ((n / 16 : Nat) : Int) := ushrL_n (b := 4) (by omega) hn
theorem us_8 {n : Nat} (hn : n < 9223372036854775808) : ushrL (n : Int) 8 = ((n / 256 : Nat) : Int) := ushrL_n (b := 8) (by omega) hn
theorem us_16 {n : Nat} (hn : n < 9223372036854775808) : ushrL (n : Int) 16 = ((n / 65536 : Nat) : Int) := ushrL_n (b := 16) (by omega) hn
theorem us_32 {n : Nat} (hn : n < 9223372036854775808) : ushrL (n : Int) 32 = ((n / 4294967296 : Nat) : Int) := ushrL_n (b := 32) (by omega) hn
