/-! Long.bitCount gives the number of bits -/
def bt1 (v : Int) : Int := w64 (v - andL (ushrL v 1) 6148914691236517205)
def bt2 (v : Int) : Int := w64 (andL v 3689348814741910323 + andL (ushrL v 2) 3689348814741910323)
def bt3 (v : Int) : Int := andL (w64 (v + ushrL v 4)) 1085102592571150095
def bt4 (v : Int) : Int := w64 (v + ushrL v 8)
def bt5 (v : Int) : Int := w64 (v + ushrL v 16)
def bt6 (v : Int) : Int := w64 (v + ushrL v 32)
theorem bt_all (v : Int) : Lng_bitCount v = some (andI (w32 (bt6 (bt5 (bt4 (bt3 (bt2 (bt1 v))))))) 127) := by
  unfold Lng_bitCount
  conv => rhs; unfold bt6
  conv => rhs; unfold bt5
  conv => rhs; unfold bt4
  conv => rhs; unfold bt3
  conv => rhs; unfold bt2
  conv => rhs; unfold bt1
theorem bd_a {n : Nat} (hn : n < 9223372036854775808) : n / 2 < 9223372036854775808 := by omega
theorem bd_b {n : Nat} (hn : n < 9223372036854775808) : n / 4 < 9223372036854775808 := by omega
theorem bd_c {n : Nat} (hn : n ≤ 7378697629483820646) : n < 9223372036854775808 := by omega
theorem bd_d {n : Nat} (hn : n ≤ 7378697629483820646) : n / 16 ≤ 1000000000000000000 := by omega
theorem bd_e {a b : Nat} (ha : a ≤ 7378697629483820646) (hb : b ≤ 1000000000000000000) : a + b < 9223372036854775808 := by omega
theorem bd_f {a b : Nat} (ha : a < 1000000000000000000) (hb : b ≤ a) : a ≤ 7378697629483820646 ∧ b ≤ 1000000000000000000 := by omega
theorem bd_g {a b c : Nat} (ha : a < 1000000000000000000) (hb : b ≤ a) (hc : c ≤ a) : a + b ≤ 7378697629483820646 ∧ c ≤ 1000000000000000000 := by omega
theorem bd_h {a b c d : Nat} (ha : a < 1000000000000000000) (hb : b ≤ a) (hc : c ≤ a) (hd : d ≤ a) : a + b + c ≤ 7378697629483820646 ∧ d ≤ 1000000000000000000 := by omega
theorem bc_x {n A N1 B C N2 a a1 s t : Nat} (hn : n < 9223372036854775808) (eA : (n / 2) &&& 6148914691236517205 = A) (qA : A ≤ n / 2) (d1 : N1 = n - A) (eB : N1 &&& 3689348814741910323 = B) (eC : (N1 / 4) &&& 3689348814741910323 = C) (qB : B ≤ 3689348814741910323) (qC : C ≤ 3689348814741910323) (d2 : N2 = B + C) (d3 : (N2 + N2 / 16) &&& 1085102592571150095 = a) (f1 : a / 256 = a1) (f2 : (a + a1) / 65536 = s) (f3 : (a + a1 + s) / 4294967296 = t) (g : a < 1000000000000000000) (g1 : a1 ≤ a) (g2 : s ≤ a) (g3 : t ≤ a) : Lng_bitCount n = some (((a + a1 + s + t) % 128 : Nat) : Int) := by
  obtain ⟨x3, N1b⟩ := bc_1 hn qA d1
  obtain ⟨x7, N2b⟩ := bc_2 qB qC d2
  have n2 := bd_a hn
  have n4 := bd_b N1b
  have m2 := bd_c N2b
  have m16 := bd_d N2b
  have x9 := bc_3 N2b m16
  have m3 := bd_e N2b m16
  have b1 := bd_f g g1
  have b2 := bd_g g g1 g2
  have b3 := bd_h g g1 g2 g3
  have x12 := bc_3 b1.1 b1.2
  have x14 := bc_3 b2.1 b2.2
  have x16 := bc_3 b3.1 b3.2
  have y1 := bd_c b1.1
  have y2 := bd_c b2.1
  have y3 := bd_c b3.1
  have z1 : bt1 n = N1 := by unfold bt1; rw [us_1 hn, an_c5 n2, eA, x3]
  have z2 : bt2 N1 = N2 := by unfold bt2; rw [an_c3 N1b, eB, us_2 N1b, an_c3 n4, eC, x7]
  have z3 : bt3 N2 = a := by unfold bt3; rw [us_4 m2, x9, an_c0 m3, d3]
  have z4 : bt4 a = ((a + a1 : Nat) : Int) := by unfold bt4; rw [us_8 y1, f1, x12]
  have z5 : bt5 ((a + a1 : Nat) : Int) = ((a + a1 + s : Nat) : Int) := by unfold bt5; rw [us_16 y2, f2, x14]
  have z6 : bt6 ((a + a1 + s : Nat) : Int) = ((a + a1 + s + t : Nat) : Int) := by unfold bt6; rw [us_32 y3, f3, x16]
  rw [bt_all, z1, z2, z3, z4, z5, z6, and127]
theorem sw_g {p0 p1 p2 p3 p4 p5 p6 p7 X : Nat} (h0 : p0 ≤ 8) (h1 : p1 ≤ 8) (h2 : p2 ≤ 8) (h3 : p3 ≤ 8) (h4 : p4 ≤ 8) (h5 : p5 ≤ 8) (h6 : p6 ≤ 8) (h7 : p7 ≤ 8) : ((p0 + p1 + p2 + p3 + p4 + p5 + p6 + p7) + 128 * (2 * X)) % 128 = p0 + p1 + p2 + p3 + p4 + p5 + p6 + p7 := by omega
theorem s_bitCount {n : Nat} (hn : n < 9223372036854775808) : Lng_bitCount n = some ((bcS n 64 0 : Nat) : Int) := by
  have k1 : mkB 85 8 = 6148914691236517205 := by decide
  have k2 : mkB 51 8 = 3689348814741910323 := by decide
  have k3 : mkB 15 8 = 1085102592571150095 := by decide
  obtain ⟨sa, -⟩ := sw_all 8 n (by omega)
  have q1 : (n / 2) &&& mkB 85 8 ≤ n / 2 := Nat.and_le_left
  have d1 : sw1 8 n = n - ((n / 2) &&& mkB 85 8) := rfl
  generalize hN1 : sw1 8 n = N1 at sa d1
  have q2 : N1 &&& mkB 51 8 ≤ mkB 51 8 := Nat.and_le_right
  have q3 : (N1 / 4) &&& mkB 51 8 ≤ mkB 51 8 := Nat.and_le_right
  have d2 : sw2 8 N1 = (N1 &&& mkB 51 8) + ((N1 / 4) &&& mkB 51 8) := rfl
  generalize hN2 : sw2 8 N1 = N2 at sa d2
  have d3 : sw3 8 N2 = (N2 + N2 / 16) &&& mkB 15 8 := rfl
  rw [sa] at d3
  have e0 : vaB 8 n = bcS (n % 256) 8 0 + 256 * vaB 7 (n / 256) := rfl
  have e1 : vaB 7 (n / 256) = bcS (n / 256 % 256) 8 0 + 256 * vaB 6 (n / 256 / 256) := rfl
  have e2 : vaB 6 (n / 256 / 256) = bcS (n / 256 / 256 % 256) 8 0 + 256 * vaB 5 (n / 256 / 256 / 256) := rfl
  have e3 : vaB 5 (n / 256 / 256 / 256) = bcS (n / 256 / 256 / 256 % 256) 8 0 + 256 * vaB 4 (n / 256 / 256 / 256 / 256) := rfl
  have e4 : vaB 4 (n / 256 / 256 / 256 / 256) = bcS (n / 256 / 256 / 256 / 256 % 256) 8 0 + 256 * vaB 3 (n / 256 / 256 / 256 / 256 / 256) := rfl
  have e5 : vaB 3 (n / 256 / 256 / 256 / 256 / 256) = bcS (n / 256 / 256 / 256 / 256 / 256 % 256) 8 0 + 256 * vaB 2 (n / 256 / 256 / 256 / 256 / 256 / 256) := rfl
  have e6 : vaB 2 (n / 256 / 256 / 256 / 256 / 256 / 256) = bcS (n / 256 / 256 / 256 / 256 / 256 / 256 % 256) 8 0 + 256 * vaB 1 (n / 256 / 256 / 256 / 256 / 256 / 256 / 256) := rfl
  have e7 : vaB 1 (n / 256 / 256 / 256 / 256 / 256 / 256 / 256) = bcS (n / 256 / 256 / 256 / 256 / 256 / 256 / 256 % 256) 8 0 := rfl
  rw [va_end n (by omega)]
  have l0 := bcS_le (n % 256) 8 0
  have l1 := bcS_le (n / 256 % 256) 8 0
  have l2 := bcS_le (n / 256 / 256 % 256) 8 0
  have l3 := bcS_le (n / 256 / 256 / 256 % 256) 8 0
  have l4 := bcS_le (n / 256 / 256 / 256 / 256 % 256) 8 0
  have l5 := bcS_le (n / 256 / 256 / 256 / 256 / 256 % 256) 8 0
  have l6 := bcS_le (n / 256 / 256 / 256 / 256 / 256 / 256 % 256) 8 0
  have l7 := bcS_le (n / 256 / 256 / 256 / 256 / 256 / 256 / 256 % 256) 8 0
  obtain ⟨f1, f2⟩ := sw_f1 l0 l1 l2 e0 e1 e2
  have f3 := sw_f2 l0 l1 l2 l3 l4 l5 l6 e0 e1 e2 e3 e4 e5 e6
  have f4 := sw_f3 e0 e1 e2 e3 e4 e5 e6 e7
  obtain ⟨g1, g2, g3, g4⟩ := sw_f4 l0 l1 l2 l3 l4 l5 l6 l7 e0 e1 e2 e3 e4 e5 e6 e7
  rw [k1] at q1 d1
  rw [k2] at q2 q3 d2
  rw [k3] at d3
  rw [bc_x hn rfl q1 d1 rfl rfl q2 q3 d2 d3.symm f1 f2 f3 g1 g2 g3 g4, f4, sw_g l0 l1 l2 l3 l4 l5 l6 l7]
