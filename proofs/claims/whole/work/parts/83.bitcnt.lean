/-! Long.bitCount -/
theorem sw_f1 {p0 p1 p2 a a1 a2 a3 : Nat} (h0 : p0 ≤ 8) (h1 : p1 ≤ 8) (h2 : p2 ≤ 8) (e0 : a = p0 + 256 * a1) (e1 : a1 = p1 + 256 * a2) (e2 : a2 = p2 + 256 * a3) : a / 256 = a1 ∧ (a + a1) / 65536 = a2 + a3 := by
  refine ⟨by omega, ?_⟩
  have : a + a1 = (p0 + p1 + 256 * (p1 + p2)) + 65536 * (a2 + a3) := by omega
  have l : p0 + p1 + 256 * (p1 + p2) < 65536 := by omega
  omega
theorem sw_f2 {p0 p1 p2 p3 p4 p5 p6 a a1 a2 a3 a4 a5 a6 a7 : Nat} (h0 : p0 ≤ 8) (h1 : p1 ≤ 8) (h2 : p2 ≤ 8) (h3 : p3 ≤ 8) (h4 : p4 ≤ 8) (h5 : p5 ≤ 8) (h6 : p6 ≤ 8) (e0 : a = p0 + 256 * a1) (e1 : a1 = p1 + 256 * a2) (e2 : a2 = p2 + 256 * a3) (e3 : a3 = p3 + 256 * a4) (e4 : a4 = p4 + 256 * a5) (e5 : a5 = p5 + 256 * a6) (e6 : a6 = p6 + 256 * a7) : (a + a1 + (a2 + a3)) / 4294967296 = a4 + a5 + a6 + a7 := by
  have e : a + a1 + (a2 + a3) = ((p0 + p1 + p2 + p3) + 256 * (p1 + p2 + p3 + p4) + 65536 * (p2 + p3 + p4 + p5) + 16777216 * (p3 + p4 + p5 + p6)) + 4294967296 * (a4 + a5 + a6 + a7) := by omega
  have l : (p0 + p1 + p2 + p3) + 256 * (p1 + p2 + p3 + p4) + 65536 * (p2 + p3 + p4 + p5) + 16777216 * (p3 + p4 + p5 + p6) < 4294967296 := by omega
  rw [e]
  generalize (p0 + p1 + p2 + p3) + 256 * (p1 + p2 + p3 + p4) + 65536 * (p2 + p3 + p4 + p5) + 16777216 * (p3 + p4 + p5 + p6) = L at l
  omega
theorem sw_f3 {p0 p1 p2 p3 p4 p5 p6 p7 a a1 a2 a3 a4 a5 a6 a7 : Nat} (e0 : a = p0 + 256 * a1) (e1 : a1 = p1 + 256 * a2) (e2 : a2 = p2 + 256 * a3) (e3 : a3 = p3 + 256 * a4) (e4 : a4 = p4 + 256 * a5) (e5 : a5 = p5 + 256 * a6) (e6 : a6 = p6 + 256 * a7) (e7 : a7 = p7) : a + a1 + (a2 + a3) + (a4 + a5 + a6 + a7) = (p0 + p1 + p2 + p3 + p4 + p5 + p6 + p7) + 128 * (2 * (a1 + a2 + a3 + a4 + a5 + a6 + a7)) := by omega
theorem sw_f4 {p0 p1 p2 p3 p4 p5 p6 p7 a a1 a2 a3 a4 a5 a6 a7 : Nat} (h0 : p0 ≤ 8) (h1 : p1 ≤ 8) (h2 : p2 ≤ 8) (h3 : p3 ≤ 8) (h4 : p4 ≤ 8) (h5 : p5 ≤ 8) (h6 : p6 ≤ 8) (h7 : p7 ≤ 8) (e0 : a = p0 + 256 * a1) (e1 : a1 = p1 + 256 * a2) (e2 : a2 = p2 + 256 * a3) (e3 : a3 = p3 + 256 * a4) (e4 : a4 = p4 + 256 * a5) (e5 : a5 = p5 + 256 * a6) (e6 : a6 = p6 + 256 * a7) (e7 : a7 = p7) : a < 1000000000000000000 ∧ a1 ≤ a ∧ a2 + a3 ≤ a ∧ a4 + a5 + a6 + a7 ≤ a := by
  have b7 : a7 ≤ 8 := by omega
  have b6 : a6 ≤ 2056 := by omega
  have b5 : a5 ≤ 526344 := by omega
  have b4 : a4 ≤ 134744072 := by omega
  have b3 : a3 ≤ 34494482440 := by omega
  have b2 : a2 ≤ 8830587504648 := by omega
  have b1 : a1 ≤ 2260630401189896 := by omega
  refine ⟨by omega, by omega, by omega, by omega⟩
