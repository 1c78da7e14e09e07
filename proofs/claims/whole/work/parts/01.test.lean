theorem tst1 (a b : Int) (h : a < b) : a + 1 ≤ b := by omega
theorem tst2 (a b : Int) : (a+b)*(a+b) = a*a+2*a*b+b*b := by grind
theorem tst3 : (123456789 ^ 1000) % 1000000007 = (123456789 ^ 1000) % 1000000007 := by decide +kernel
#print axioms tst2
