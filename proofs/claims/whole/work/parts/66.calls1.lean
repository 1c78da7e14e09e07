/-! calls on numbers: both answer alike -/
def i32 (x : Int) : Prop := -2147483648 ≤ x ∧ x < 2147483648
/-- a call of the class on numbers, and the reference's -/
def nCall (P Q : Int → Int → Prop) (X R : AH → Option (Int × AH)) : Prop := ∀ h, Sh h → ∃ r h1, X h = some (r, h1) ∧ Fr P h h1 ∧ ∀ g, Sh g → ∃ g', R g = some (r, g') ∧ Fr Q g g'
def pCall (X R : Option Int) : Prop := ∃ r, X = some r ∧ R = some r
theorem FK24 {b j : Int} (h : FK 24 b j) : Mut b j := FK.mut (Or.inr (Or.inr rfl)) h
theorem num_if {n : Int} {α : Type} {a b : Option α} {r : Option α} (h : (if 2 ≤ n ∧ n ≤ 1000000000 then b else a) = r) : ((Arithmetic_isNumber n).bind fun u1 => if u1 = 0 then a else b) = r := by
  refine cB (s_isNumber n) ?_
  by_cases q : 2 ≤ n ∧ n ≤ 1000000000
  · rw [if_pos q] at h ⊢; exact ifF one_ne h
  · rw [if_neg q] at h ⊢; exact ifT rfl h
theorem rnum_if {n : Int} {α : Type} {a b : Option α} {r : Option α} (h : (if 2 ≤ n ∧ n ≤ 1000000000 then b else a) = r) : ((R_isNumber n).bind fun u1 => if u1 = 0 then a else b) = r := by
  refine cB s_RisNumber ?_
  by_cases q : 2 ≤ n ∧ n ≤ 1000000000
  · rw [if_pos q] at h; rw [decide_eq_true q]; exact ifF one_ne h
  · rw [if_neg q] at h; rw [decide_eq_false q]; exact ifT rfl h
theorem rin_if {v x y : Int} {α : Type} {a b : Option α} {r : Option α} (h : (if x ≤ v ∧ v ≤ y then b else a) = r) : ((R_in v x y).bind fun u1 => if u1 = 0 then a else b) = r := by
  refine cB s_Rin ?_
  by_cases q : x ≤ v ∧ v ≤ y
  · rw [if_pos q] at h; rw [decide_eq_true q]; exact ifF one_ne h
  · rw [if_neg q] at h; rw [decide_eq_false q]; exact ifT rfl h
theorem s_isPQ {v : Int} : X_isPQ v = some (b2i (decide (1 ≤ v ∧ v ≤ 99))) := by
  unfold X_isPQ
  by_cases q : v < 1
  · rw [if_pos q, decide_eq_false (by omega)]; rfl
  · rw [if_neg q]
    by_cases q2 : 99 < v
    · rw [if_pos q2, decide_eq_false (by omega)]; rfl
    · rw [if_neg q2, decide_eq_true (by omega)]; rfl
theorem pq_if {v : Int} {α : Type} {a b : Option α} {r : Option α} (h : (if 1 ≤ v ∧ v ≤ 99 then b else a) = r) : ((X_isPQ v).bind fun u1 => if u1 = 0 then a else b) = r := by
  refine cB s_isPQ ?_
  by_cases q : 1 ≤ v ∧ v ≤ 99
  · rw [if_pos q] at h; rw [decide_eq_true q]; exact ifF one_ne h
  · rw [if_neg q] at h; rw [decide_eq_false q]; exact ifT rfl h
/-! ### prime -/
theorem q_prime (hM : MRok) (n i : Int) : nCall (FK 24) XK (fun h => X_prime 0 n i h) (fun g => R_prime 27 n i g) := by
  intro h H
  by_cases q : 2 ≤ n ∧ n ≤ 1000000000
  · by_cases q1 : i < -1
    · refine ⟨-1, h, ?_, Fr.rf, fun g G => ⟨g, ?_, Fr.rf⟩⟩
      · unfold X_prime; refine num_if ?_; rw [if_pos q]; exact ifT q1 rfl
      · unfold R_prime; refine rnum_if ?_; rw [if_pos q]; exact ifT q1 rfl
    · obtain ⟨h1, e1, F1, D1⟩ := s_split hM (H.fo (Or.inr (Or.inr rfl))) (n := n) (by omega) (by omega)
      have H1 := H.fr F1 fun b j => FK24
      have l9 := D1.2.2.1
      have pre : ∀ {r}, (if i = -1 then some ((((facS n).length : Nat) : Int), h1) else if i < (((facS n).length : Nat) : Int) then (gd (hTy h1 25 = 21 ∧ 0 ≤ i ∧ i < hLn h1 25) (hCe h1 25 i)).bind (fun u11 => some (u11, h1)) else some (-1, h1)) = r → X_prime 0 n i h = r := by
        rintro r rfl
        unfold X_prime
        refine num_if ?_
        rw [if_pos q]
        refine ifF q1 ?_
        refine gB H.t0 ?_
        rw [H.p0_5]
        refine gB H.t24 ?_
        refine cB e1 ?_
        congr 1
        · refine gB H1.t0 ?_
          rw [H1.p0_5]
          refine gB H1.t24 ?_
          rw [D1.2.1]
        · refine gB H1.t0 ?_
          rw [H1.p0_5]
          refine gB H1.t24 ?_
          rw [D1.2.1]
          congr 1
          refine gB H1.t0 ?_
          refine gB H1.t24 ?_
          rw [H1.p24_0]
      have rpre : ∀ g, Sh g → ∃ g1, Sh g1 ∧ FCM g1 (facS n) ∧ Fr XK g g1 ∧ ∀ {r}, (if i = -1 then some ((((facS n).length : Nat) : Int), g1) else if i < (((facS n).length : Nat) : Int) then (gd (hTy g1 31 = 21 ∧ 0 ≤ i ∧ i < hLn g1 31) (hCe g1 31 i)).bind (fun u11 => some (u11, g1)) else some (-1, g1)) = r → R_prime 27 n i g = r := by
        intro g G
        obtain ⟨g1, e2, F2, D2⟩ := s_laysFactors G (n := n) (by omega) (by omega)
        have G1 := G.fr F2 fun b j => XK.mut
        refine ⟨g1, G1, D2, F2, ?_⟩
        rintro r rfl
        unfold R_prime
        refine rnum_if ?_
        rw [if_pos q]
        refine ifF q1 ?_
        refine gB G.t27 ?_
        refine cB e2 ?_
        congr 1
        · refine gB G1.t27 ?_
          rw [D2.1]
        · refine gB G1.t27 ?_
          rw [D2.1]
          congr 1
          refine gB G1.t27 ?_
          rw [G1.p27_4]
      by_cases q2 : i = -1
      · exact ⟨_, h1, pre (ifT q2 rfl), F1, fun g G => by
          obtain ⟨g1, G1, D2, F2, p⟩ := rpre g G
          exact ⟨g1, p (ifT q2 rfl), F2⟩⟩
      · by_cases q3 : i < (((facS n).length : Nat) : Int)
        · obtain ⟨k, rfl⟩ := Int.eq_ofNat_of_zero_le (show 0 ≤ i by omega)
          refine ⟨(ge (facS n) k).1, h1, pre (ifF q2 (ifT q3 (gB ⟨H1.t25, by omega, by rw [H1.l25]; omega⟩ ?_))), F1, fun g G => ?_⟩
          · have := (D1.2.2.2 k (by omega)).1
            rw [show (24 : Int) + 1 = 25 from rfl] at this
            rw [this]
          · obtain ⟨g1, G1, D2, F2, p⟩ := rpre g G
            refine ⟨g1, p (ifF q2 (ifT q3 (gB ⟨G1.t31, by omega, by rw [G1.l31]; omega⟩ ?_))), F2⟩
            rw [(D2.2.2 k (by omega)).1]
        · exact ⟨-1, h1, pre (ifF q2 (ifF q3 rfl)), F1, fun g G => by
            obtain ⟨g1, G1, D2, F2, p⟩ := rpre g G
            exact ⟨g1, p (ifF q2 (ifF q3 rfl)), F2⟩⟩
  · refine ⟨-1, h, ?_, Fr.rf, fun g G => ⟨g, ?_, Fr.rf⟩⟩
    · unfold X_prime; refine num_if ?_; rw [if_neg q]
    · unfold R_prime; refine rnum_if ?_; rw [if_neg q]
/-! ### often -/
theorem of_loop {d : Int} (hd : 2 ≤ d) : ∀ (k f : Nat) (r t : Int), 1 ≤ r → r < 2 ^ k → k ≤ 31 → k < f → 0 ≤ t → t + k ≤ 60 → R_often_23 f d t r = some (t + ((dvS r d).1 : Int)) := by
  intro k
  induction k with
  | zero => intro f r t h1 h2; simp at h2; omega
  | succ k ih =>
    intro f r t h1 h2 hk hf a1 a2
    obtain ⟨f, rfl, hf⟩ := fu_pos hf
    have l := dv_lt hd h1
    have r31 : r < 2147483648 := by
      have : (2 : Int) ^ (k + 1) ≤ 2 ^ 31 := by
        have := Nat.pow_le_pow_right (n := 2) (by omega) hk
        exact_mod_cast this
      omega
    unfold R_often_23
    rw [tm_e (by omega), td_e (by omega)]
    refine gB (by omega) ?_
    by_cases q : r % d = 0
    · have b := dv_ex hd h1 q
      refine ifT q ?_
      refine gB (by omega) ?_
      rw [w32_e (by omega), w32_e (by omega), ih f (r / d) (t + 1) b.2 (by rw [Int.pow_succ] at h2; omega) (by omega) (by omega) (by omega) (by omega), dvS_y hd h1 q]
      congr 1
      show t + 1 + ((dvS (r / d) d).1 : Int) = t + (((dvS (r / d) d).1 + 1 : Nat) : Int)
      omega
    · refine ifF q ?_
      rw [dvS_n q]
      show some t = some (t + 0)
      rw [Int.add_zero]
theorem q_often (n by' : Int) : pCall (X_often 0 n by') (R_often 27 n by') := by
  by_cases q : 2 ≤ n ∧ n ≤ 1000000000
  · by_cases q2 : 2 ≤ by' ∧ by' ≤ 1000000000
    · refine ⟨((dvS n by').1 : Int), ?_, ?_⟩
      · unfold X_often
        refine num_if ?_; rw [if_pos q]
        refine num_if ?_; rw [if_pos q2]
        exact cB (s_timesDivides (by omega) q2.1) rfl
      · unfold R_often
        refine rnum_if ?_; rw [if_pos q]
        refine rnum_if ?_; rw [if_pos q2]
        rw [of_loop q2.1 31 FU n 0 (by omega) (by omega) (Nat.le_refl _) (fu_big (by omega)) (by omega) (by omega), Int.zero_add]
    · refine ⟨-1, ?_, ?_⟩
      · unfold X_often
        refine num_if ?_; rw [if_pos q]
        refine num_if ?_; rw [if_neg q2]
      · unfold R_often
        refine rnum_if ?_; rw [if_pos q]
        refine rnum_if ?_; rw [if_neg q2]
  · refine ⟨-1, ?_, ?_⟩
    · unfold X_often; refine num_if ?_; rw [if_neg q]
    · unfold R_often; refine rnum_if ?_; rw [if_neg q]
/-! ### chase -/
theorem ch_loop {n c : Int} (hn : okN n) (hc : 1 ≤ c ∧ c ≤ 99) : ∀ (k f f' : Nat) (x y i : Int), i + k = 1000 → 0 ≤ i → k < f → k < f' → 0 ≤ x ∧ x ≤ 1000000000 → 0 ≤ y ∧ y ≤ 1000000000 → ∃ r, X_chase_28 f n c x y i = some r ∧ R_chase_34 f' n c x y i = some r := by
  have n1 := hn.1
  have n2 := hn.2
  intro k
  induction k with
  | zero =>
    intro f f' x y i hi h0 hf hf' hx hy
    obtain ⟨f, rfl, -⟩ := fu_pos hf
    obtain ⟨f', rfl, -⟩ := fu_pos hf'
    refine ⟨-2, ?_, ?_⟩
    · unfold X_chase_28; exact ifF (by omega) rfl
    · unfold R_chase_34; exact ifF (by omega) rfl
  | succ k ih =>
    intro f f' x y i hi h0 hf hf' hx hy
    obtain ⟨f, rfl, hf⟩ := fu_pos hf
    obtain ⟨f', rfl, hf'⟩ := fu_pos hf'
    have b1 := mul_bd (a := x) (b := x) (by omega) (by omega)
    have b2 := mul_bd (a := y) (b := y) (by omega) (by omega)
    have m1 := mod_bd (a := x * x + c) (m := n) (by omega)
    have m2 := mod_bd (a := y * y + c) (m := n) (by omega)
    generalize hu : (x * x + c) % n = u at m1
    generalize hv : (y * y + c) % n = v at m2
    have b3 := mul_bd (a := v) (b := v) (by omega) (by omega)
    have m3 := mod_bd (a := v * v + c) (m := n) (by omega)
    generalize hw : (v * v + c) % n = w at m3
    have ab : Math_abs_J (w64 (u - w)) = some (if u - w < 0 then w - u else u - w) := by
      unfold Math_abs_J
      rw [w64_e (by omega)]
      by_cases z : u - w < 0
      · rw [if_pos z, if_pos z, w64_e (by omega)]; congr 1; omega
      · rw [if_neg z, if_neg z]
    have co := s_commonOf (a := if u - w < 0 then w - u else u - w) (b := n) (by split <;> omega) (by omega)
    have cr := s_common (a := if u - w < 0 then w - u else u - w) (b := n) (by split <;> omega) (by omega)
    have gb : gcS (if u - w < 0 then w - u else u - w) n ≤ n := by
      unfold gcS
      have := Nat.gcd_le_right (if u - w < 0 then w - u else u - w).toNat (show 0 < n.toNat by omega)
      omega
    have g0 : 0 ≤ gcS (if u - w < 0 then w - u else u - w) n := Int.natCast_nonneg _
    obtain ⟨r, e1, e2⟩ := ih f f' u w (i + 1) (by omega) (by omega) (by omega) (by omega) (by omega) (by omega)
    have xs : ∀ {r}, (if gcS (if u - w < 0 then w - u else u - w) n = 1 then X_chase_28 f n c u w (i + 1) else some (gcS (if u - w < 0 then w - u else u - w) n)) = r → X_chase_28 (f + 1) n c x y i = r := by
      rintro r rfl
      conv => lhs; unfold X_chase_28
      refine ifT (by omega) ?_
      rw [w64_e (z := x * x) (by omega), w64_e (z := x * x + c) (by omega), w64_e (z := y * y) (by omega), w64_e (z := y * y + c) (by omega), tm_e (by omega), tm_e (by omega), hu, hv]
      refine gB (by omega) ?_
      refine gB (by omega) ?_
      rw [w64_e (z := v * v) (by omega), w64_e (z := v * v + c) (by omega), tm_e (by omega), hw]
      refine gB (by omega) ?_
      refine cB ab ?_
      refine cB co ?_
      rw [w32_e (z := i + 1) (by omega), w32_e (by omega)]
    have rs : ∀ {r}, (if gcS (if u - w < 0 then w - u else u - w) n = 1 then R_chase_34 f' n c u w (i + 1) else some (gcS (if u - w < 0 then w - u else u - w) n)) = r → R_chase_34 (f' + 1) n c x y i = r := by
      rintro r rfl
      conv => lhs; unfold R_chase_34
      refine ifT (by omega) ?_
      rw [w64_e (z := x * x) (by omega), w64_e (z := x * x + c) (by omega), w64_e (z := y * y) (by omega), w64_e (z := y * y + c) (by omega), tm_e (by omega), tm_e (by omega), hu, hv]
      refine gB (by omega) ?_
      refine gB (by omega) ?_
      rw [w64_e (z := v * v) (by omega), w64_e (z := v * v + c) (by omega), tm_e (by omega), hw]
      refine gB (by omega) ?_
      rw [w64_e (z := u - w) (by omega), w64_e (z := w - u) (by omega)]
      by_cases z : u - w < 0
      · rw [if_pos z] at cr ⊢
        refine ifF (by omega) ?_
        unfold R_chase_96
        refine cB cr ?_
        rw [if_pos z] at gb g0
        rw [w32_e (z := i + 1) (by omega), w32_e (by omega)]
      · rw [if_neg z] at cr ⊢
        rw [if_neg z] at gb g0
        by_cases z2 : w < u
        · refine ifT z2 ?_
          unfold R_chase_96
          refine cB cr ?_
          rw [w32_e (z := i + 1) (by omega), w32_e (by omega)]
        · refine ifF z2 ?_
          unfold R_chase_96
          rw [show w - u = u - w by omega]
          refine cB cr ?_
          rw [w32_e (z := i + 1) (by omega), w32_e (by omega)]
    by_cases z : gcS (if u - w < 0 then w - u else u - w) n = 1
    · exact ⟨r, xs ((if_pos z).trans e1), rs ((if_pos z).trans e2)⟩
    · exact ⟨_, xs (if_neg z), rs (if_neg z)⟩
theorem q_chase (n c : Int) : pCall (X_chase 0 n c) (R_chase 27 n c) := by
  by_cases q : 2 ≤ n ∧ n ≤ 1000000000
  · by_cases q2 : 1 ≤ c ∧ c ≤ 99
    · obtain ⟨r, e1, e2⟩ := ch_loop q q2 1000 FU FU 2 2 0 (by omega) (by omega) (fu_big (by omega)) (fu_big (by omega)) (by omega) (by omega)
      refine ⟨r, ?_, ?_⟩
      · unfold X_chase; refine num_if ?_; rw [if_pos q]; refine pq_if ?_; rw [if_pos q2]; exact e1
      · unfold R_chase; refine rnum_if ?_; rw [if_pos q]; refine rin_if ?_; rw [if_pos q2]; exact e2
    · refine ⟨-1, ?_, ?_⟩
      · unfold X_chase; refine num_if ?_; rw [if_pos q]; refine pq_if ?_; rw [if_neg q2]
      · unfold R_chase; refine rnum_if ?_; rw [if_pos q]; refine rin_if ?_; rw [if_neg q2]
  · refine ⟨-1, ?_, ?_⟩
    · unfold X_chase; refine num_if ?_; rw [if_neg q]
    · unfold R_chase; refine rnum_if ?_; rw [if_neg q]
/-! ### primes, next -/
theorem q_primes (hM : MRok) {a b : Int} (ha : i32 a) (hb : i32 b) : pCall (X_primes 0 a b) (R_primes 27 a b) := by
  have loop : ∀ (k f f' : Nat) (n t : Int), n + k = b + 1 → 0 ≤ n → k < f → k < f' → b ≤ 1000000000 → k ≤ 1000 → 0 ≤ t → t + k ≤ 2000 → ∃ r, X_primes_32 f b t n = some r ∧ R_primes_32 f' b t n = some r := by
    intro k
    induction k with
    | zero =>
      intro f f' n t hn h0 hf hf' hb2 hk t0 t1
      obtain ⟨f, rfl, -⟩ := fu_pos hf
      obtain ⟨f', rfl, -⟩ := fu_pos hf'
      refine ⟨t, ?_, ?_⟩
      · unfold X_primes_32; exact ifT (by omega) rfl
      · unfold R_primes_32; exact ifT (by omega) rfl
    | succ k ih =>
      intro f f' n t hn h0 hf hf' hb2 hk t0 t1
      obtain ⟨f, rfl, hf⟩ := fu_pos hf
      obtain ⟨f', rfl, hf'⟩ := fu_pos hf'
      have x1 := s_isPrime hM (n := n) (by omega)
      have x2 := s_RisPrime2 (n := n) (by omega)
      rcases prS_01 n with p | p
      · obtain ⟨r, e1, e2⟩ := ih f f' (n + 1) t (by omega) (by omega) (by omega) (by omega) hb2 (by omega) t0 (by omega)
        refine ⟨r, ?_, ?_⟩
        · unfold X_primes_32; refine ifF (by omega) (cB x1 (ifT p ?_)); rw [w32_e (by omega)]; exact e1
        · unfold R_primes_32; refine ifF (by omega) (cB x2 (ifT p ?_)); rw [w32_e (by omega)]; exact e2
      · obtain ⟨r, e1, e2⟩ := ih f f' (n + 1) (t + 1) (by omega) (by omega) (by omega) (by omega) hb2 (by omega) (by omega) (by omega)
        refine ⟨r, ?_, ?_⟩
        · unfold X_primes_32; refine ifF (by omega) (cB x1 (ifF (by omega) ?_)); rw [w32_e (by omega), w32_e (by omega)]; exact e1
        · unfold R_primes_32; refine ifF (by omega) (cB x2 (ifF (by omega) ?_)); rw [w32_e (by omega), w32_e (by omega)]; exact e2
  unfold X_primes R_primes
  unfold i32 at ha hb
  by_cases q1 : a < 0
  · exact ⟨-1, ifT q1 rfl, ifT q1 rfl⟩
  by_cases q2 : b < a
  · exact ⟨-1, ifF q1 (ifT q2 rfl), ifF q1 (ifT q2 rfl)⟩
  by_cases q3 : 1000000000 < b
  · exact ⟨-1, ifF q1 (ifF q2 (ifT q3 rfl)), ifF q1 (ifF q2 (ifT q3 rfl))⟩
  rw [w32_e (z := b - a) (by omega)]
  by_cases q4 : b - a < 1000
  · obtain ⟨r, e1, e2⟩ := loop (b - a + 1).toNat FU FU a 0 (by omega) (by omega) (fu_big (by omega)) (fu_big (by omega)) (by omega) (by omega) (by omega) (by omega)
    exact ⟨r, ifF q1 (ifF q2 (ifF q3 (ifT q4 e1))), ifF q1 (ifF q2 (ifF q3 (ifT q4 e2)))⟩
  · exact ⟨-1, ifF q1 (ifF q2 (ifF q3 (ifF q4 rfl))), ifF q1 (ifF q2 (ifF q3 (ifF q4 rfl)))⟩
/-- the greatest prime that may be asked for -/
def tdP (n : Nat) : Nat → Nat → Bool
  | 0, _ => true
  | k + 1, d => (n % d != 0) && tdP n k (d + 1)
theorem tdP_ok {n : Nat} : ∀ {k d : Nat}, tdP n k d = true → ∀ e, d ≤ e → e < d + k → n % e ≠ 0
  | 0, d, _, e, h1, h2 => by omega
  | k + 1, d, h, e, h1, h2 => by
    unfold tdP at h
    rw [Bool.and_eq_true] at h
    by_cases q : e = d
    · subst q
      intro z
      rw [z] at h
      exact absurd h.1 (by decide)
    · exact tdP_ok h.2 e (by omega) (by omega)
theorem lastP : isP 999999937 := by
  have h : tdP 999999937 31621 2 = true := by decide +kernel
  refine ⟨by omega, fun d hd h2 z => ?_⟩
  have d2 : d < 31623 := by
    rcases Int.lt_or_le d 31623 with q | q
    · exact q
    · have := Int.mul_le_mul q q (by omega) (by omega)
      omega
  obtain ⟨k, rfl⟩ := Int.eq_ofNat_of_zero_le (show (0:Int) ≤ d by omega)
  refine tdP_ok h k (by omega) (by omega) ?_
  have : ((999999937 % k : Nat) : Int) = 0 := z
  omega
theorem q_next (hM : MRok) {n : Int} (hn : i32 n) : pCall (X_next 0 n) (R_next 27 n) := by
  have loop : ∀ (k f f' : Nat) (m : Int), m + k = 999999937 → 0 ≤ m → k < f → k < f' → 1 ≤ k → ∃ r, X_next_8 f m = some r ∧ R_next_18 f' (m + 1) = some r := by
    intro k
    induction k with
    | zero => intro f f' m hm h0 hf hf' h1; omega
    | succ k ih =>
      intro f f' m hm h0 hf hf' h1
      obtain ⟨f, rfl, hf⟩ := fu_pos hf
      obtain ⟨f', rfl, hf'⟩ := fu_pos hf'
      have x1 := s_isPrime hM (n := m + 1) (by omega)
      have x2 := s_RisPrime2 (n := m + 1) (by omega)
      rcases prS_01 (m + 1) with p | p
      · have k1 : 1 ≤ k := by
          rcases Nat.eq_zero_or_pos k with z | z
          · subst z
            exfalso
            rw [show m + 1 = 999999937 by omega, prS_t lastP] at p
            omega
          · exact z
        obtain ⟨r, e1, e2⟩ := ih f f' (m + 1) (by omega) (by omega) (by omega) (by omega) k1
        refine ⟨r, ?_, ?_⟩
        · unfold X_next_8; rw [w32_e (by omega)]; exact ifT (by omega) (cB x1 (ifT p e1))
        · unfold R_next_18; refine cB x2 (ifT p ?_); rw [w32_e (by omega)]; exact e2
      · refine ⟨m + 1, ?_, ?_⟩
        · unfold X_next_8; rw [w32_e (by omega)]; exact ifT (by omega) (cB x1 (ifF (by omega) rfl))
        · unfold R_next_18; exact cB x2 (ifF (by omega) rfl)
  unfold i32 at hn
  by_cases q : 0 ≤ n ∧ n ≤ 999999936
  · obtain ⟨r, e1, e2⟩ := loop (999999937 - n).toNat FU FU n (by omega) (by omega) (fu_big (by omega)) (fu_big (by omega)) (by omega)
    refine ⟨r, ?_, ?_⟩
    · unfold X_next; exact ifF (by omega) e1
    · unfold R_next; refine rin_if ?_; rw [if_pos q, w32_e (by omega)]; exact e2
  · refine ⟨-1, ?_, ?_⟩
    · unfold X_next
      by_cases z : n < 0
      · exact ifT z rfl
      · refine ifF z ?_
        rw [show FU = 4294967295 + 1 from rfl]
        unfold X_next_8
        exact ifF (by omega) rfl
    · unfold R_next; refine rin_if ?_; rw [if_neg q]
/-! ### passes, fools -/
theorem odd_if {n : Int} {α : Type} {a b : Option α} {r : Option α} (h : (if (2 ≤ n ∧ n ≤ 1000000000) ∧ n % 2 = 1 then b else a) = r) : ((X_isOddNumber n).bind fun u1 => if u1 = 0 then a else b) = r := by
  have e : X_isOddNumber n = some (if (2 ≤ n ∧ n ≤ 1000000000) ∧ n % 2 = 1 then 1 else 0) := by
    unfold X_isOddNumber
    refine num_if ?_
    by_cases q : 2 ≤ n ∧ n ≤ 1000000000
    · rw [if_pos q, tm_e (by omega)]
      refine gB (by omega) ?_
      by_cases z : n % 2 = 1
      · rw [if_pos z, if_pos ⟨q, z⟩]
      · rw [if_neg z, if_neg (fun y => z y.2)]
    · rw [if_neg q, if_neg (fun y => q y.1)]
  refine cB e ?_
  by_cases q : (2 ≤ n ∧ n ≤ 1000000000) ∧ n % 2 = 1
  · rw [if_pos q] at h ⊢; exact ifF one_ne h
  · rw [if_neg q] at h ⊢; exact ifT rfl h
theorem rodd_if {n : Int} {α : Type} {a b : Option α} {r : Option α} (h : (if (2 ≤ n ∧ n ≤ 1000000000) ∧ n % 2 = 1 then b else a) = r) : ((R_isOdd n).bind fun u1 => if u1 = 0 then a else b) = r := by
  have e : R_isOdd n = some (if (2 ≤ n ∧ n ≤ 1000000000) ∧ n % 2 = 1 then 1 else 0) := by
    unfold R_isOdd
    refine rin_if ?_
    by_cases q : 3 ≤ n ∧ n ≤ 1000000000
    · rw [if_pos q, tm_e (by omega)]
      refine gB (by omega) ?_
      by_cases z : n % 2 = 1
      · rw [if_pos z, if_pos ⟨by omega, z⟩]
      · rw [if_neg z, if_neg (fun y => z y.2)]
    · rw [if_neg q, if_neg (by omega)]
  refine cB e ?_
  by_cases q : (2 ≤ n ∧ n ≤ 1000000000) ∧ n % 2 = 1
  · rw [if_pos q] at h ⊢; exact ifF one_ne h
  · rw [if_neg q] at h ⊢; exact ifT rfl h
theorem q_passes (n a : Int) : pCall (X_passes 0 n a) (R_passes 27 n a) := by
  by_cases q : (2 ≤ n ∧ n ≤ 1000000000) ∧ n % 2 = 1
  · by_cases q2 : 2 ≤ a ∧ a ≤ 999
    · by_cases q3 : a < n
      · have x1 := s_passesBy (n := n) (a := a) (by omega) q.2 (by omega)
        have x2 := s_doesPass (n := n) (a := a) (by omega) (by omega)
        refine ⟨b2i (paS n a), ?_, ?_⟩
        · unfold X_passes
          refine odd_if ?_; rw [if_pos q]
          refine ifF (by omega) (ifF (by omega) (ifT q3 (cB x1 ?_)))
          cases paS n a <;> rfl
        · unfold R_passes
          refine rodd_if ?_; rw [if_pos q]
          refine rin_if ?_; rw [if_pos q2]
          refine ifT q3 (cB x2 ?_)
          cases paS n a <;> rfl
      · refine ⟨-1, ?_, ?_⟩
        · unfold X_passes; refine odd_if ?_; rw [if_pos q]; exact ifF (by omega) (ifF (by omega) (ifF q3 rfl))
        · unfold R_passes; refine rodd_if ?_; rw [if_pos q]; refine rin_if ?_; rw [if_pos q2]; exact ifF q3 rfl
    · refine ⟨-1, ?_, ?_⟩
      · unfold X_passes; refine odd_if ?_; rw [if_pos q]
        by_cases z : a < 2
        · exact ifT z rfl
        · exact ifF z (ifT (by omega) rfl)
      · unfold R_passes; refine rodd_if ?_; rw [if_pos q]; refine rin_if ?_; rw [if_neg q2]
  · refine ⟨-1, ?_, ?_⟩
    · unfold X_passes; refine odd_if ?_; rw [if_neg q]
    · unfold R_passes; refine rodd_if ?_; rw [if_neg q]
theorem q_fools (n w : Int) : pCall (X_fools 0 n w) (R_fools 27 n w) := by
  by_cases q : (2 ≤ n ∧ n ≤ 1000000000) ∧ n % 2 = 1
  · by_cases q2 : 0 ≤ w ∧ w ≤ 1
    · -- the last base
      have rloop : ∀ (k f' : Nat) (a p l : Int), a + k = (if n - 1 < 999 then n - 1 else 999) + 1 → 2 ≤ a → k < f' → k ≤ 1000 → 0 ≤ p → p + k ≤ 2000 → l ≠ 0 → w = 1 → R_fools_27 f' n w p l a = some l := by
        intro k
        induction k with
        | zero =>
          intro f' a p l ha h2 hf' hk p0 p1 l0 w1
          obtain ⟨f', rfl, -⟩ := fu_pos hf'
          unfold R_fools_27
          by_cases z : 999 < a
          · exact ifT z (ifF (by omega) rfl)
          · exact ifF z (ifF (by split at ha <;> omega) (ifF (by omega) rfl))
        | succ k ih =>
          intro f' a p l ha h2 hf' hk p0 p1 l0 w1
          obtain ⟨f', rfl, hf'⟩ := fu_pos hf'
          have a9 : a ≤ 999 ∧ a < n := by split at ha <;> omega
          unfold R_fools_27
          refine ifF (by omega) (ifT a9.2 (cB (s_doesPass (by omega) (by omega)) ?_))
          rw [w32_e (z := a + 1) (by omega)]
          cases paS n a
          · exact ifT rfl (ifF l0 (ih f' (a + 1) p l (by omega) (by omega) (by omega) (by omega) p0 (by omega) l0 w1))
          · refine ifF one_ne ?_
            rw [w32_e (by omega)]
            exact ih f' (a + 1) (p + 1) l (by omega) (by omega) (by omega) (by omega) (by omega) (by omega) l0 w1
      have loop : ∀ (k f f' : Nat) (a p l : Int), a + k = (if n - 1 < 999 then n - 1 else 999) + 1 → 2 ≤ a → k < f → k < f' → k ≤ 1000 → 0 ≤ p → p + k ≤ 2000 → (w = 1 → l = 0) → ∃ r, X_fools_34 f n w p (if n - 1 < 999 then n - 1 else 999) a = some r ∧ R_fools_27 f' n w p l a = some r := by
        intro k
        induction k with
        | zero =>
          intro f f' a p l ha h2 hf hf' hk p0 p1 hl
          obtain ⟨f, rfl, -⟩ := fu_pos hf
          obtain ⟨f', rfl, -⟩ := fu_pos hf'
          by_cases w0 : w = 0
          · refine ⟨p, ?_, ?_⟩
            · unfold X_fools_34; exact ifT (by omega) (ifT w0 rfl)
            · unfold R_fools_27
              by_cases z : 999 < a
              · exact ifT z (ifT w0 rfl)
              · exact ifF z (ifF (by split at ha <;> omega) (ifT w0 rfl))
          · refine ⟨0, ?_, ?_⟩
            · unfold X_fools_34; exact ifT (by omega) (ifF w0 rfl)
            · have l0 := hl (by omega)
              subst l0
              unfold R_fools_27
              by_cases z : 999 < a
              · exact ifT z (ifF w0 rfl)
              · exact ifF z (ifF (by split at ha <;> omega) (ifF w0 rfl))
        | succ k ih =>
          intro f f' a p l ha h2 hf hf' hk p0 p1 hl
          obtain ⟨f, rfl, hf⟩ := fu_pos hf
          obtain ⟨f', rfl, hf'⟩ := fu_pos hf'
          have a9 : a ≤ 999 ∧ a < n := by split at ha <;> omega
          have x1 := s_passesBy (n := n) (a := a) (by omega) q.2 (by omega)
          have x2 := s_doesPass (n := n) (a := a) (by omega) (by omega)
          cases pa : paS n a
          · by_cases w1 : w = 1
            · refine ⟨a, ?_, ?_⟩
              · unfold X_fools_34; exact ifF (by omega) (cB x1 (ifT (by rw [pa]; rfl) (ifT w1 rfl)))
              · have l0 := hl w1
                subst l0
                unfold R_fools_27
                refine ifF (by omega) (ifT a9.2 (cB x2 (ifT (by rw [pa]; rfl) (ifT rfl ?_))))
                rw [w32_e (by omega)]
                exact rloop k f' (a + 1) p a (by omega) (by omega) (by omega) (by omega) p0 (by omega) (by omega) w1
            · obtain ⟨r1, e1, e2⟩ := ih f f' (a + 1) p (if l = 0 then a else l) (by omega) (by omega) (by omega) (by omega) (by omega) p0 (by omega) (fun z => absurd z w1)
              refine ⟨r1, ?_, ?_⟩
              · unfold X_fools_34; refine ifF (by omega) (cB x1 (ifT (by rw [pa]; rfl) (ifF w1 ?_))); rw [w32_e (by omega)]; exact e1
              · unfold R_fools_27
                refine ifF (by omega) (ifT a9.2 (cB x2 (ifT (by rw [pa]; rfl) ?_)))
                rw [w32_e (by omega)]
                by_cases l0 : l = 0
                · rw [if_pos l0] at e2; exact ifT l0 e2
                · rw [if_neg l0] at e2; exact ifF l0 e2
          · obtain ⟨r1, e1, e2⟩ := ih f f' (a + 1) (p + 1) l (by omega) (by omega) (by omega) (by omega) (by omega) (by omega) (by omega) hl
            refine ⟨r1, ?_, ?_⟩
            · unfold X_fools_34; refine ifF (by omega) (cB x1 (ifF (by rw [pa]; decide) ?_)); rw [w32_e (by omega), w32_e (by omega)]; exact e1
            · unfold R_fools_27
              refine ifF (by omega) (ifT a9.2 (cB x2 (ifF (by rw [pa]; decide) ?_)))
              rw [w32_e (by omega), w32_e (by omega)]; exact e2
      obtain ⟨r, e1, e2⟩ := loop ((if n - 1 < 999 then n - 1 else 999) - 1).toNat FU FU 2 0 0 (by split <;> omega) (by omega) (fu_big (by split <;> omega)) (fu_big (by split <;> omega)) (by split <;> omega) (by omega) (by split <;> omega) (fun _ => rfl)
      refine ⟨r, ?_, ?_⟩
      · unfold X_fools
        refine odd_if ?_; rw [if_pos q]
        refine ifF (by omega) (ifF (by omega) ?_)
        rw [w32_e (by omega)]
        exact cB s_min e1
      · unfold R_fools
        refine rodd_if ?_; rw [if_pos q]
        refine rin_if ?_; rw [if_pos q2]
        exact e2
    · refine ⟨-1, ?_, ?_⟩
      · unfold X_fools; refine odd_if ?_; rw [if_pos q]
        by_cases z : w < 0
        · exact ifT z rfl
        · exact ifF z (ifT (by omega) rfl)
      · unfold R_fools; refine rodd_if ?_; rw [if_pos q]; refine rin_if ?_; rw [if_neg q2]
  · refine ⟨-1, ?_, ?_⟩
    · unfold X_fools; refine odd_if ?_; rw [if_neg q]
    · unfold R_fools; refine rodd_if ?_; rw [if_neg q]
/-! ### power, jacobi, u -/
theorem q_power {a k m : Int} (ha : i32 a) (hk : i32 k) (hm : i32 m) : pCall (X_power 0 a k m) (R_power 27 a k m) := by
  unfold i32 at ha hk hm
  unfold X_power R_power
  by_cases q1 : a < 0
  · exact ⟨-1, ifT q1 rfl, ifT q1 rfl⟩
  by_cases q2 : k < 0
  · exact ⟨-1, ifF q1 (ifT q2 rfl), ifF q1 (ifT q2 rfl)⟩
  by_cases q3 : m < 1
  · exact ⟨-1, ifF q1 (ifF q2 (ifT q3 rfl)), ifF q1 (ifF q2 (ifT q3 rfl))⟩
  exact ⟨w32 (pwS a k m), ifF q1 (ifF q2 (ifF q3 (cB (s_powerLeft (by omega) (by omega) (by omega)) rfl))), ifF q1 (ifF q2 (ifF q3 (cB (s_powerOf (by omega) (by omega) (by omega)) rfl)))⟩
theorem q_jacobi {a m : Int} (ha : i32 a) (hm : i32 m) : pCall (X_jacobi 0 a m) (R_jacobi 27 a m) := by
  unfold i32 at ha hm
  unfold X_jacobi R_jacobi
  by_cases q1 : m < 1
  · exact ⟨-2, ifT q1 rfl, ifT q1 rfl⟩
  rw [tm_e (by omega)]
  by_cases q2 : m % 2 = 0
  · exact ⟨-2, ifF q1 (gB (by omega) (ifT q2 rfl)), ifF q1 (gB (by omega) (ifT q2 rfl))⟩
  exact ⟨jaS a m, ifF q1 (gB (by omega) (ifF q2 (cB (s_jacobiOf (by unfold in64; omega) (by omega)) rfl))), ifF q1 (gB (by omega) (ifF q2 (cB (s_signOf (by unfold in64; omega) (by omega)) rfl)))⟩
theorem q_u {p q k m : Int} (hk : i32 k) : ∃ r, X_u 0 p q k m = some r ∧ ∀ g, Sh g → ∃ g', R_u 27 p q k m g = some (r, g') ∧ Fr QK g g' := by
  unfold i32 at hk
  by_cases q1 : 1 ≤ p ∧ p ≤ 99
  · by_cases q2 : 1 ≤ q ∧ q ≤ 99
    · by_cases q3 : k < 0
      · refine ⟨-1, ?_, fun g G => ⟨g, ?_, Fr.rf⟩⟩
        · unfold X_u; refine pq_if ?_; rw [if_pos q1]; refine pq_if ?_; rw [if_pos q2]; exact ifT q3 rfl
        · unfold R_u; refine rin_if ?_; rw [if_pos q1]; refine rin_if ?_; rw [if_pos q2]; exact ifT q3 rfl
      · by_cases q4 : 1 ≤ m ∧ m ≤ 1000000000
        · refine ⟨w32 (sqS p q k m), ?_, fun g G => ?_⟩
          · unfold X_u; refine pq_if ?_; rw [if_pos q1]; refine pq_if ?_; rw [if_pos q2]
            exact ifF q3 (ifF (by omega) (ifF (by omega) (cB (s_sequenceLeft q1 q2 (by omega) (by omega)) rfl)))
          · obtain ⟨g', e, F⟩ := s_Rsequence G (p := p) (q := q) (k := k) (m := m) q1 q2 (by omega) (by omega)
            refine ⟨g', ?_, F⟩
            unfold R_u; refine rin_if ?_; rw [if_pos q1]; refine rin_if ?_; rw [if_pos q2]
            refine ifF q3 ?_
            refine rin_if ?_; rw [if_pos q4]
            exact gB G.t27 (cB e rfl)
        · refine ⟨-1, ?_, fun g G => ⟨g, ?_, Fr.rf⟩⟩
          · unfold X_u; refine pq_if ?_; rw [if_pos q1]; refine pq_if ?_; rw [if_pos q2]
            refine ifF q3 ?_
            by_cases z : m < 1
            · exact ifT z rfl
            · exact ifF z (ifT (by omega) rfl)
          · unfold R_u; refine rin_if ?_; rw [if_pos q1]; refine rin_if ?_; rw [if_pos q2]
            refine ifF q3 ?_
            refine rin_if ?_; rw [if_neg q4]
    · refine ⟨-1, ?_, fun g G => ⟨g, ?_, Fr.rf⟩⟩
      · unfold X_u; refine pq_if ?_; rw [if_pos q1]; refine pq_if ?_; rw [if_neg q2]
      · unfold R_u; refine rin_if ?_; rw [if_pos q1]; refine rin_if ?_; rw [if_neg q2]
  · refine ⟨-1, ?_, fun g G => ⟨g, ?_, Fr.rf⟩⟩
    · unfold X_u; refine pq_if ?_; rw [if_neg q1]
    · unfold R_u; refine rin_if ?_; rw [if_neg q1]
