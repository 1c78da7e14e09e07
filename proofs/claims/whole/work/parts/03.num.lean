/-! numbers: the machine's words and whole numbers -/
def in32 (x : Int) : Prop := -2147483648 ≤ x ∧ x < 2147483648
def in64 (x : Int) : Prop := -9223372036854775808 ≤ x ∧ x < 9223372036854775808
theorem w32_bmod (z : Int) : w32 z = z.bmod (2 ^ 32) := by
  unfold w32 Int.bmod
  simp only [Nat.reducePow, Int.reducePow]
  omega
theorem w64_bmod (z : Int) : w64 z = z.bmod (2 ^ 64) := by
  unfold w64 Int.bmod
  simp only [Nat.reducePow, Int.reducePow]
  omega
theorem w32_in (z : Int) : in32 (w32 z) := by unfold in32 w32; omega
theorem w64_in (z : Int) : in64 (w64 z) := by unfold in64 w64; omega
theorem w32_id {z : Int} (h : in32 z) : w32 z = z := by unfold in32 at h; unfold w32; omega
theorem w64_id {z : Int} (h : in64 z) : w64 z = z := by unfold in64 at h; unfold w64; omega
theorem n32_toInt {x : Int} (h : in32 x) : (Int32.ofInt x).toInt = x := by
  unfold in32 at h
  exact Int32.toInt_ofInt_of_le (by omega) (by omega)
theorem n64_toInt {x : Int} (h : in64 x) : (Int64.ofInt x).toInt = x := by
  unfold in64 at h
  exact Int64.toInt_ofInt_of_le (by omega) (by omega)
theorem i32_in (x : Int32) : in32 x.toInt := ⟨by have := Int32.le_toInt x; omega, by have := Int32.toInt_lt x; omega⟩
theorem i64_in (x : Int64) : in64 x.toInt := ⟨by have := Int64.le_toInt x; omega, by have := Int64.toInt_lt x; omega⟩
theorem n32_w (z : Int) : Int32.ofInt (w32 z) = Int32.ofInt z := by
  rw [← Int32.toInt_inj, n32_toInt (w32_in z), w32_bmod, Int32.toInt_ofInt]
theorem n64_w (z : Int) : Int64.ofInt (w64 z) = Int64.ofInt z := by
  rw [← Int64.toInt_inj, n64_toInt (w64_in z), w64_bmod, Int64.toInt_ofInt]
theorem n32_add (a b : Int) : Int32.ofInt a + Int32.ofInt b = Int32.ofInt (w32 (a + b)) := by rw [n32_w, Int32.ofInt_add]
theorem n32_sub (a b : Int) : Int32.ofInt a - Int32.ofInt b = Int32.ofInt (w32 (a - b)) := by rw [n32_w, Int32.ofInt_sub]
theorem n32_mul (a b : Int) : Int32.ofInt a * Int32.ofInt b = Int32.ofInt (w32 (a * b)) := by rw [n32_w, Int32.ofInt_mul]
theorem n32_neg (a : Int) : -Int32.ofInt a = Int32.ofInt (w32 (-a)) := by rw [n32_w, Int32.ofInt_neg]
theorem n64_add (a b : Int) : Int64.ofInt a + Int64.ofInt b = Int64.ofInt (w64 (a + b)) := by rw [n64_w, Int64.ofInt_add]
theorem n64_sub (a b : Int) : Int64.ofInt a - Int64.ofInt b = Int64.ofInt (w64 (a - b)) := by rw [n64_w, Int64.ofInt_sub]
theorem n64_mul (a b : Int) : Int64.ofInt a * Int64.ofInt b = Int64.ofInt (w64 (a * b)) := by rw [n64_w, Int64.ofInt_mul]
theorem n64_neg (a : Int) : -Int64.ofInt a = Int64.ofInt (w64 (-a)) := by rw [n64_w, Int64.ofInt_neg]
theorem n32_div {a b : Int} (ha : in32 a) (hb : in32 b) : Int32.ofInt a / Int32.ofInt b = Int32.ofInt (w32 (a.tdiv b)) := by
  rw [← Int32.toInt_inj, Int32.toInt_div, n32_toInt ha, n32_toInt hb, n32_toInt (w32_in _), w32_bmod]
theorem n64_div {a b : Int} (ha : in64 a) (hb : in64 b) : Int64.ofInt a / Int64.ofInt b = Int64.ofInt (w64 (a.tdiv b)) := by
  rw [← Int64.toInt_inj, Int64.toInt_div, n64_toInt ha, n64_toInt hb, n64_toInt (w64_in _), w64_bmod]
theorem tmod_in {lo hi : Int} {a b : Int} (h0 : lo ≤ 0) (h1 : 0 < hi) (ha : lo ≤ a ∧ a < hi) : lo ≤ a.tmod b ∧ a.tmod b < hi := by
  rcases Int.le_total 0 a with h | h
  · have h2 := Int.tmod_nonneg b h
    have h3 : a.tmod b ≤ a := by
      rw [Int.tmod_def]
      have : 0 ≤ b * a.tdiv b := by
        rcases Int.le_total 0 b with hb | hb
        · exact Int.mul_nonneg hb (Int.tdiv_nonneg h hb)
        · have := Int.tdiv_nonpos_of_nonneg_of_nonpos h hb
          exact Int.mul_nonneg_of_nonpos_of_nonpos hb this
      omega
    omega
  · have e : a.tmod b = -((-a).tmod b) := by rw [Int.neg_tmod, Int.neg_neg]
    have hn : 0 ≤ -a := by omega
    have h2 := Int.tmod_nonneg b hn
    have h3 : (-a).tmod b ≤ -a := by
      rw [Int.tmod_def]
      have : 0 ≤ b * (-a).tdiv b := by
        rcases Int.le_total 0 b with hb | hb
        · exact Int.mul_nonneg hb (Int.tdiv_nonneg hn hb)
        · have := Int.tdiv_nonpos_of_nonneg_of_nonpos hn hb
          exact Int.mul_nonneg_of_nonpos_of_nonpos hb this
      omega
    omega
theorem n32_rem {a b : Int} (ha : in32 a) (hb : in32 b) : Int32.ofInt a - Int32.ofInt a / Int32.ofInt b * Int32.ofInt b = Int32.ofInt (a.tmod b) := by
  rw [irem_eq_mod, ← Int32.toInt_inj, Int32.toInt_mod, n32_toInt ha, n32_toInt hb, n32_toInt]
  exact tmod_in (by omega) (by omega) ha
theorem lrem_mod (x y : Int64) : x - (x / y) * y = x % y := by
  rw [← Int64.toInt_inj, Int64.toInt_sub, Int64.toInt_mul, Int64.toInt_div, Int64.toInt_mod, Int.tmod_def]
  simp only [Int.sub_bmod_bmod, Int.bmod_mul_bmod]
  have h := tmod_in (b := y.toInt) (lo := -9223372036854775808) (hi := 9223372036854775808) (by omega) (by omega) (i64_in x)
  rw [Int.tmod_def] at h
  rw [Int.mul_comm (x.toInt.tdiv y.toInt) y.toInt, ← w64_bmod]
  exact w64_id h
theorem n64_rem {a b : Int} (ha : in64 a) (hb : in64 b) : Int64.ofInt a - Int64.ofInt a / Int64.ofInt b * Int64.ofInt b = Int64.ofInt (a.tmod b) := by
  rw [lrem_mod, ← Int64.toInt_inj, Int64.toInt_mod, n64_toInt ha, n64_toInt hb, n64_toInt]
  exact tmod_in (by omega) (by omega) ha
theorem n32_eq {a b : Int} (ha : in32 a) (hb : in32 b) : Int32.ofInt a = Int32.ofInt b ↔ a = b := by
  rw [← Int32.toInt_inj, n32_toInt ha, n32_toInt hb]
theorem n32_lt {a b : Int} (ha : in32 a) (hb : in32 b) : Int32.ofInt a < Int32.ofInt b ↔ a < b := by
  rw [Int32.lt_iff_toInt_lt, n32_toInt ha, n32_toInt hb]
theorem n32_le {a b : Int} (ha : in32 a) (hb : in32 b) : Int32.ofInt a ≤ Int32.ofInt b ↔ a ≤ b := by
  rw [Int32.le_iff_toInt_le, n32_toInt ha, n32_toInt hb]
theorem n64_eq {a b : Int} (ha : in64 a) (hb : in64 b) : Int64.ofInt a = Int64.ofInt b ↔ a = b := by
  rw [← Int64.toInt_inj, n64_toInt ha, n64_toInt hb]
theorem n64_lt {a b : Int} (ha : in64 a) (hb : in64 b) : Int64.ofInt a < Int64.ofInt b ↔ a < b := by
  rw [Int64.lt_iff_toInt_lt, n64_toInt ha, n64_toInt hb]
theorem n32_clamp {i : Int} (h0 : 0 ≤ i) (h : in32 i) : (Int32.ofInt i).toNatClampNeg = i.toNat := by
  rw [← n32_toInt h]
  rw [n32_toInt h]
  show (Int32.ofInt i).toInt.toNat = i.toNat
  rw [n32_toInt h]
theorem n32_vin {i : Int} {n : Nat} (h0 : 0 ≤ i) (h : in32 i) (hn : i < (n : Int)) : vp_in (Int32.ofInt i) n := by
  intro q
  rcases q with q | q
  · rw [show (0 : Int32) = Int32.ofInt 0 from rfl, n32_lt h (by unfold in32; omega)] at q
    omega
  · rw [n32_clamp h0 h] at q
    omega
theorem n32_i2l {a : Int} (h : in32 a) : (Int32.ofInt a).toInt64 = Int64.ofInt a := by
  rw [← Int64.toInt_inj, Int32.toInt_toInt64, n32_toInt h, n64_toInt]
  unfold in32 at h
  unfold in64
  omega
theorem n64_l2i {a : Int} (h : in64 a) : (Int64.ofInt a).toInt32 = Int32.ofInt (w32 a) := by
  rw [← Int32.toInt_inj, Int64.toInt_toInt32, n64_toInt h, n32_toInt (w32_in a), w32_bmod]
theorem n32_i2c {a : Int} (h : in32 a) : ((Int32.ofInt a).toUInt32 % 65536).toInt32 = Int32.ofInt (a % 65536) := by
  rw [pk_char, nI]
  have e : (Int32.ofInt a).toBitVec.toNat % 2 ^ 16 = (a % 65536).toNat := by
    have h1 : (Int32.ofInt a).toInt = a := n32_toInt h
    have h2 : (Int32.ofInt a).toInt = (Int32.ofInt a).toBitVec.toInt := rfl
    rw [BitVec.toInt_eq_toNat_bmod] at h2
    rw [h1] at h2
    have h3 := (Int32.ofInt a).toBitVec.isLt
    generalize (Int32.ofInt a).toBitVec.toNat = n at h2 h3 ⊢
    unfold Int.bmod at h2
    simp only [Nat.reducePow, Int.reducePow] at h2 h3 ⊢
    omega
  first
    | (rw [show (65536 : Nat) = 2 ^ 16 from rfl, e])
    | (rw [e])
  rw [← Int32.ofInt_eq_ofNat, Int.toNat_of_nonneg (by omega)]
theorem lg_cmpI {a b : Int} (ha : in64 a) (hb : in64 b) : lg_cmp (Int64.ofInt a) (Int64.ofInt b) = Int32.ofInt (cmpL a b) := by
  unfold lg_cmp cmpL
  simp only [n64_lt ha hb, n64_lt hb ha, n64_eq ha hb]
  by_cases h1 : a < b
  · have h2 : ¬ b < a := by omega
    have h3 : ¬ a = b := by omega
    simp [h1, h2, h3]
  · by_cases h2 : a = b
    · subst h2
      simp
    · have h3 : b < a := by omega
      simp [h1, h2, h3]
theorem cmpL_in (a b : Int) : in32 (cmpL a b) := by unfold cmpL in32; split <;> (try split) <;> omega
