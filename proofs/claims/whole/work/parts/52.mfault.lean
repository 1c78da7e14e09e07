/-! the reference: faults -/
theorem s_RhasPair {s : Int} : R_hasPair s = some (b2i (decide (s = 3 ∨ s = 4))) := by
  unfold R_hasPair
  by_cases q : s = 3
  · refine ifT q ?_
    rw [decide_eq_true (Or.inl q)]; rfl
  · refine ifF q ?_
    by_cases q4 : s = 4
    · refine ifT q4 ?_
      rw [decide_eq_true (Or.inr q4)]; rfl
    · refine ifF q4 ?_
      rw [decide_eq_false (by omega)]; rfl
theorem s_isOneBy {n b : Int} (hn : okN n) (hb : 0 ≤ b) : R_isOneBy n b = some (b2i (decide (pwS b (n - 1) n = 1))) := by
  obtain ⟨n1, n2⟩ := hn
  unfold R_isOneBy
  rw [w64_e (by omega)]
  refine cB (s_powerOf hb (by omega) (by omega)) ?_
  by_cases q : pwS b (n - 1) n = 1
  · refine ifT q ?_
    rw [decide_eq_true q]; rfl
  · refine ifF q ?_
    rw [decide_eq_false q]; rfl
theorem s_isApartBy {n b q : Int} (hn : okN n) (hb : 0 ≤ b) (hq : 1 ≤ q) : R_isApartBy n b q = some (b2i (decide (gcS ((pwS b ((n - 1) / q) n - 1) % n) n = 1))) := by
  obtain ⟨n1, n2⟩ := hn
  have db := dv_bd (n := n - 1) (q := q) (by omega) hq
  have fin : ∀ x : Int, 0 ≤ x → x < n → R_isApartBy_31 n x = some (b2i (decide (gcS x n = 1))) := by
    intro x x0 x1
    unfold R_isApartBy_31
    refine cB (s_common (by omega) (by omega)) ?_
    by_cases z : gcS x n = 1
    · refine ifT z ?_
      rw [decide_eq_true z]; rfl
    · refine ifF z ?_
      rw [decide_eq_false z]; rfl
  unfold R_isApartBy
  rw [w64_e (z := n - 1) (by omega), td_e (by omega), w64_e (z := (n - 1) / q) (by omega)]
  refine gB (by omega) ?_
  refine cB (s_powerOf hb (by omega) (by omega)) ?_
  have hx := pwS_bd (a := b) (k := (n - 1) / q) (m := n) (by omega)
  generalize pwS b ((n - 1) / q) n = x at hx
  rw [w64_e (z := x - 1) (by omega), w64_e (by omega)]
  by_cases z : x - 1 < 0
  · refine ifT z ?_
    rw [fin _ (by omega) (by omega)]
    congr 2
    have : x - 1 + n = (x - 1) % n := by
      rw [← Int.add_emod_right (x - 1) n, Int.emod_eq_of_lt (by omega) (by omega)]
    rw [this]
  · refine ifF z ?_
    rw [fin _ (by omega) (by omega), Int.emod_eq_of_lt (a := x - 1) (by omega) (by omega)]
/-! ### little, fit, enough -/
theorem s_isLittle {n f g : Int} (hn : okN n) (hf : 1 ≤ f ∧ f ≤ 1000000001) (hg : 1 ≤ g ∧ g ≤ 1000000001) : R_isLittle n f g = some (b2i (!enS n f g)) := by
  have n2 := hn.2
  have n1 := hn.1
  unfold R_isLittle enS
  refine cB (s_common (by omega) (by omega)) ?_
  have c1 := gc_pos (b := g) hf.1
  have c2 := gc_q (b := g) hf.1
  rw [td_e (by omega), w64_e (by omega)]
  refine gB (by omega) ?_
  have b1 : 1 ≤ f / gcS f g * g := by
    have := Int.mul_le_mul c2.1 hg.1 (by omega) (by omega)
    omega
  have b2 : f / gcS f g * g ≤ 1000000001 * 1000000001 := Int.mul_le_mul (by omega) hg.2 (by omega) (by omega)
  generalize f / gcS f g * g = m at b1 b2
  rw [w64_e (z := m) (by omega)]
  have fin : n < m * m → R_isLittle_34 n m = some (b2i (!(decide (n < m * m) && !(decide (1 < n % m) && decide (n % m < n) && decide (n % (n % m) = 0))))) := by
    intro g1
    unfold R_isLittle_34
    rw [tm_e (by omega), decide_eq_true g1, Bool.true_and]
    refine gB (by omega) ?_
    by_cases g2 : 1 < n % m
    · refine ifT g2 ?_
      rw [decide_eq_true g2, Bool.true_and]
      by_cases g3 : n % m < n
      · refine ifT g3 ?_
        rw [decide_eq_true g3, Bool.true_and, tm_e (by omega)]
        refine gB (by omega) ?_
        by_cases g4 : n % (n % m) = 0
        · refine ifT g4 ?_
          rw [decide_eq_true g4]; rfl
        · refine ifF g4 ?_
          rw [decide_eq_false g4]; rfl
      · refine ifF g3 ?_
        rw [decide_eq_false g3]; rfl
    · refine ifF g2 ?_
      rw [decide_eq_false g2]; rfl
  by_cases z : 40000 < m
  · refine ifT z ?_
    refine fin ?_
    have := Int.mul_le_mul (show (40000 : Int) ≤ m by omega) (show (40000 : Int) ≤ m by omega) (by omega) (by omega)
    omega
  · refine ifF z ?_
    have mb := mul_bd (a := m) (b := m) (by omega) (by omega)
    rw [w64_e (z := m * m) (by omega)]
    by_cases g1 : n < m * m
    · refine ifT g1 ?_
      exact fin g1
    · refine ifF g1 ?_
      rw [decide_eq_false g1]; rfl
theorem s_isFit {h : AH} (H : Sh h) {k : Nat} (hk : k ≤ 115) {l : LN} (L : LM h k l) (hn : okN l.1.1) (hd : ∀ r ∈ l.2.1, okR r) (hu : ∀ r ∈ l.2.2, okR r) (hs : 1 ≤ l.1.2.1 ∧ l.1.2.1 ≤ 4) : R_isFit 27 k h = some (b2i (decide (pfS l.1.1 l.1.2.1 (prF l.2.1) (prF l.2.2) ≠ 3))) := by
  have n2 := hn.2
  have n1 := hn.1
  have f1 := prF_pos hd
  have g1 := prF_pos hu
  have f2 := cap_p (c := 4000000000) (by omega) f1
  have g2 := cap_p (c := 4000000000) (by omega) g1
  have e1 := cap4_eq (m := l.1.1 - 1) (f := prF l.2.1) (by omega)
  have e2 := cap4_eq (m := l.1.1 + 1) (f := prF l.2.2) (by omega)
  have m1 := cap4_md (m := l.1.1 - 1) (f := prF l.2.1) (by omega) f1
  have m2 := cap4_md (m := l.1.1 + 1) (f := prF l.2.2) (by omega) g1
  unfold R_isFit pfS
  refine gB H.t27 ?_
  rw [H.p27_8]
  refine gB ⟨H.t33, by omega, by rw [H.l33]; omega⟩ ?_
  refine gB H.t27 ?_
  refine cB (s_below H hk L hd) ?_
  refine gB H.t27 ?_
  refine cB (s_above H hk L hu) ?_
  refine gB H.t27 ?_
  rw [H.p27_9]
  refine gB ⟨H.t34, by omega, by rw [H.l34]; omega⟩ ?_
  rw [L.1.1, L.1.2.1, w64_e (z := l.1.1 - 1) (by omega), w64_e (z := l.1.1 + 1) (by omega), tm_e (by omega), tm_e (by omega)]
  by_cases s1 : l.1.2.1 = 1
  · refine ifT s1 ?_
    rw [if_pos s1]
    by_cases q : prF l.2.1 = l.1.1 - 1
    · refine ifT (e1.mpr q) ?_
      rw [if_pos q]; rfl
    · refine ifF (fun z => q (e1.mp z)) ?_
      rw [if_neg q]; rfl
  refine ifF s1 ?_
  rw [if_neg s1]
  by_cases s2 : l.1.2.1 = 2
  · refine ifT s2 ?_
    rw [if_pos s2]
    refine gB (by omega) ?_
    by_cases q : (l.1.1 - 1) % prF l.2.1 = 0
    · refine ifT (m1.mpr q) ?_
      rw [if_pos q, decide_eq_true (by split <;> omega)]; rfl
    · refine ifF (fun z => q (m1.mp z)) ?_
      rw [if_neg q]; rfl
  refine ifF s2 ?_
  rw [if_neg s2]
  by_cases s3 : l.1.2.1 = 3
  · refine ifT s3 ?_
    rw [if_pos s3]
    by_cases q : prF l.2.2 = l.1.1 + 1
    · refine ifT (e2.mpr q) ?_
      rw [if_pos q]; rfl
    · refine ifF (fun z => q (e2.mp z)) ?_
      rw [if_neg q]; rfl
  refine ifF s3 ?_
  rw [if_neg s3, if_pos (show l.1.2.1 = 4 by omega)]
  refine gB (by omega) ?_
  by_cases q : (l.1.1 - 1) % prF l.2.1 = 0
  · refine ifT (m1.mpr q) ?_
    refine gB (by omega) ?_
    by_cases q2 : (l.1.1 + 1) % prF l.2.2 = 0
    · refine ifT (m2.mpr q2) ?_
      rw [if_pos ⟨q, q2⟩, decide_eq_true (by split <;> omega)]; rfl
    · refine ifF (fun z => q2 (m2.mp z)) ?_
      rw [if_neg (fun z => q2 z.2)]; rfl
  · refine ifF (fun z => q (m1.mp z)) ?_
    rw [if_neg (fun z => q z.1)]; rfl
/-- of a line that has no fault 3 -/
theorem s_RisEnough {h : AH} (H : Sh h) {k : Nat} (hk : k ≤ 115) {l : LN} (L : LM h k l) (hn : okN l.1.1) (hd : ∀ r ∈ l.2.1, okR r) (hu : ∀ r ∈ l.2.2, okR r) (hs : 1 ≤ l.1.2.1 ∧ l.1.2.1 ≤ 4) (h3 : pfS l.1.1 l.1.2.1 (prF l.2.1) (prF l.2.2) ≠ 3) : R_isEnough 27 k h = some (b2i (decide (pfS l.1.1 l.1.2.1 (prF l.2.1) (prF l.2.2) = 0))) := by
  have n2 := hn.2
  have n1 := hn.1
  have f1 := prF_pos hd
  have g1 := prF_pos hu
  unfold R_isEnough
  refine gB H.t27 ?_
  refine cB (s_below H hk L hd) ?_
  refine gB H.t27 ?_
  rw [H.p27_9]
  refine gB ⟨H.t34, by omega, by rw [H.l34]; omega⟩ ?_
  rw [L.1.2.1]
  unfold pfS at *
  by_cases s2 : l.1.2.1 = 2
  · refine ifT s2 ?_
    rw [if_neg (show ¬ l.1.2.1 = 1 by omega), if_pos s2] at h3 ⊢
    refine gB H.t27 ?_
    rw [H.p27_8]
    refine gB ⟨H.t33, by omega, by rw [H.l33]; omega⟩ ?_
    rw [L.1.1]
    by_cases q : (l.1.1 - 1) % prF l.2.1 = 0
    · have := md_le (by omega) f1 q
      rw [cap_lt (by omega), if_pos q]
      have b := mul_bd (a := prF l.2.1) (b := prF l.2.1) (by omega) (by omega)
      rw [w64_e (by omega)]
      by_cases q2 : l.1.1 < prF l.2.1 * prF l.2.1
      · refine ifT q2 ?_
        rw [if_pos q2]; rfl
      · refine ifF q2 ?_
        rw [if_neg q2]; rfl
    · rw [if_neg q] at h3; exact absurd rfl h3
  refine ifF s2 ?_
  refine gB H.t27 ?_
  refine gB ⟨H.t34, by omega, by rw [H.l34]; omega⟩ ?_
  rw [L.1.2.1]
  by_cases s4 : l.1.2.1 = 4
  · refine ifT s4 ?_
    rw [if_neg (show ¬ l.1.2.1 = 1 by omega), if_neg s2, if_neg (show ¬ l.1.2.1 = 3 by omega), if_pos s4] at h3 ⊢
    refine gB H.t27 ?_
    rw [H.p27_8]
    refine gB ⟨H.t33, by omega, by rw [H.l33]; omega⟩ ?_
    rw [L.1.1]
    refine gB H.t27 ?_
    refine cB (s_above H hk L hu) ?_
    by_cases q : (l.1.1 - 1) % prF l.2.1 = 0 ∧ (l.1.1 + 1) % prF l.2.2 = 0
    · have z1 := md_le (by omega) f1 q.1
      have z2 := md_le (by omega) g1 q.2
      rw [cap_lt (by omega), cap_lt (by omega)]
      refine cB (s_isLittle hn (by omega) (by omega)) ?_
      rw [if_pos q]
      cases enS l.1.1 (prF l.2.1) (prF l.2.2)
      · exact ifF (by decide) rfl
      · exact ifT rfl rfl
    · rw [if_neg q] at h3; exact absurd rfl h3
  refine ifF s4 ?_
  by_cases s1 : l.1.2.1 = 1
  · rw [if_pos s1] at h3 ⊢
    by_cases q : prF l.2.1 = l.1.1 - 1
    · rw [if_pos q]; rfl
    · rw [if_neg q] at h3; exact absurd rfl h3
  · rw [if_neg s1, if_neg s2, if_pos (show l.1.2.1 = 3 by omega)] at h3 ⊢
    by_cases q : prF l.2.2 = l.1.1 + 1
    · rw [if_pos q]; rfl
    · rw [if_neg q] at h3; exact absurd rfl h3
/-! ### repeats, lines ahead -/
def RQ (h : AH) (qa fr : Int) (l : List RW) : Prop := ∀ i : Nat, i < l.length → hCe h qa (fr + i) = (gt l i).1
theorem RM.q {h : AH} {qa ea fr : Int} {l : List RW} (R : RM h qa ea fr l) : RQ h qa fr l := fun i hi => (R i hi).1
theorem at_in {h : AH} {qa fr sz : Int} {l : List RW} (R : RQ h qa fr l) (tq : hTy h qa = 21) (lq : fr + l.length ≤ hLn h qa) (h0 : 0 ≤ fr ∧ fr ≤ 2000) (h9 : l.length ≤ 9) {k2 : Int → Int → Int → Int → AH → Option Int} {i : Nat} (hi : i < l.length) : ∀ (n f k : Nat), k + n = i → n < f → ((∃ j, k ≤ j ∧ j < i ∧ (gt l i).1 = (gt l j).1) ∧ R_areTwice_12 k2 f qa fr sz (fr + i) (fr + k) h = some 1) ∨ ((¬ ∃ j, k ≤ j ∧ j < i ∧ (gt l i).1 = (gt l j).1) ∧ R_areTwice_12 k2 f qa fr sz (fr + i) (fr + k) h = k2 qa fr sz (w32 (fr + (i : Int) + 1)) h) := by
  intro n
  induction n with
  | zero =>
    intro f k hk hf
    obtain ⟨f, rfl, -⟩ := fu_pos hf
    refine Or.inr ⟨fun ⟨j, a, b, _⟩ => by omega, ?_⟩
    unfold R_areTwice_12
    exact ifF (by omega) rfl
  | succ n ih =>
    intro f k hk hf
    obtain ⟨f, rfl, hf⟩ := fu_pos hf
    have c1 := R i hi
    have c2 := R k (by omega)
    by_cases q : (gt l i).1 = (gt l k).1
    · refine Or.inl ⟨⟨k, Nat.le_refl _, by omega, q⟩, ?_⟩
      unfold R_areTwice_12
      refine ifT (by omega) ?_
      refine gB ⟨tq, by omega, by omega⟩ ?_
      refine gB ⟨tq, by omega, by omega⟩ ?_
      rw [c1, c2]
      exact ifT q rfl
    · have e : R_areTwice_12 k2 (f + 1) qa fr sz (fr + i) (fr + k) h = R_areTwice_12 k2 f qa fr sz (fr + i) (fr + ((k + 1 : Nat) : Int)) h := by
        conv => lhs; unfold R_areTwice_12
        refine ifT (by omega) ?_
        refine gB ⟨tq, by omega, by omega⟩ ?_
        refine gB ⟨tq, by omega, by omega⟩ ?_
        rw [c1, c2]
        refine ifF q ?_
        rw [w32_e (by omega)]
        congr 1
        omega
      rw [e]
      rcases ih f (k + 1) (by omega) (by omega) with ⟨⟨j, a, b, c⟩, z⟩ | ⟨a, z⟩
      · exact Or.inl ⟨⟨j, by omega, b, c⟩, z⟩
      · refine Or.inr ⟨fun ⟨j, x, y, w⟩ => ?_, z⟩
        rcases Nat.lt_or_ge k j with t | t
        · exact a ⟨j, t, y, w⟩
        · have : j = k := by omega
          subst this
          exact q w
theorem at_out {h : AH} {qa fr : Int} {l : List RW} (R : RQ h qa fr l) (tq : hTy h qa = 21) (lq : fr + l.length ≤ hLn h qa) (h0 : 0 ≤ fr ∧ fr ≤ 2000) (h9 : l.length ≤ 9) : ∀ (n f i : Nat), i + n = l.length → n < f → ((∃ j k, i ≤ j ∧ k < j ∧ j < l.length ∧ (gt l j).1 = (gt l k).1) ∧ R_areTwice_2 f qa fr l.length (fr + i) h = some 1) ∨ ((¬ ∃ j k, i ≤ j ∧ k < j ∧ j < l.length ∧ (gt l j).1 = (gt l k).1) ∧ R_areTwice_2 f qa fr l.length (fr + i) h = some 0) := by
  intro n
  induction n with
  | zero =>
    intro f i hi hf
    obtain ⟨f, rfl, -⟩ := fu_pos hf
    refine Or.inr ⟨fun ⟨j, k, a, b, c, _⟩ => by omega, ?_⟩
    unfold R_areTwice_2
    rw [w32_e (by omega)]
    exact ifF (by omega) rfl
  | succ n ih =>
    intro f i hi hf
    obtain ⟨f, rfl, hf⟩ := fu_pos hf
    have e : R_areTwice_2 (f + 1) qa fr l.length (fr + i) h = R_areTwice_12 (fun a0 a1 a2 a3 h0 => R_areTwice_2 f a0 a1 a2 a3 h0) FU qa fr l.length (fr + i) fr h := by
      conv => lhs; unfold R_areTwice_2
      rw [w32_e (by omega)]
      exact ifT (by omega) rfl
    rw [e]
    have := at_in R tq lq h0 h9 (sz := l.length) (k2 := fun a0 a1 a2 a3 h0 => R_areTwice_2 f a0 a1 a2 a3 h0) (i := i) (by omega) i FU 0 (by omega) (fu_big (by omega))
    rw [show ((0 : Nat) : Int) = 0 from rfl, Int.add_zero] at this
    rcases this with ⟨⟨j, a, b, c⟩, z⟩ | ⟨a, z⟩
    · exact Or.inl ⟨⟨i, j, Nat.le_refl _, b, by omega, c⟩, z⟩
    · rw [z, w32_e (by omega), show fr + (i : Int) + 1 = fr + ((i + 1 : Nat) : Int) by omega]
      rcases ih f (i + 1) (by omega) (by omega) with ⟨⟨j, k, x, y, w, v⟩, u⟩ | ⟨x, u⟩
      · exact Or.inl ⟨⟨j, k, by omega, y, w, v⟩, u⟩
      · refine Or.inr ⟨fun ⟨j, k, y, w, v, t⟩ => ?_, u⟩
        rcases Nat.lt_or_ge i j with o | o
        · exact x ⟨j, k, o, w, v, t⟩
        · have : j = i := by omega
          subst this
          exact a ⟨k, Nat.zero_le _, w, t⟩
theorem s_areTwice {h : AH} {qa fr : Int} {l : List RW} (R : RQ h qa fr l) (tq : hTy h qa = 21) (lq : fr + l.length ≤ hLn h qa) (h0 : 0 ≤ fr ∧ fr ≤ 2000) (h9 : l.length ≤ 9) : R_areTwice qa fr l.length h = some (pB (rpP l)) := by
  unfold R_areTwice
  have := at_out R tq lq h0 h9 l.length FU 0 (by omega) (fu_big (by omega))
  rw [show ((0 : Nat) : Int) = 0 from rfl, Int.add_zero] at this
  rcases this with ⟨⟨j, k, a, b, c, d⟩, z⟩ | ⟨a, z⟩
  · rw [pB_t ⟨j, k, b, c, d⟩]; exact z
  · rw [pB_f fun ⟨j, k, b, c, d⟩ => a ⟨j, k, Nat.zero_le _, b, c, d⟩]; exact z
/-- the right lines as the reference has them laid -/
def RR (h : AH) (j : Nat) : Bool := decide (hCe h 44 (j : Int) ≠ 0)
theorem lf_loop {h : AH} (H : Sh h) {ls : List LN} {e : Nat} (he : e ≤ 60) (hn : ∀ j, j < e → hCe h 33 (j : Int) = (gl ls j).1.1) {q : Int} : ∀ (k f j : Nat), j + k = e → k < f → R_lineFor_2 f 27 q e j h = some (ahF ls (RR h) q k j) := by
  intro k
  induction k with
  | zero =>
    intro f j hj hf
    obtain ⟨f, rfl, -⟩ := fu_pos hf
    unfold R_lineFor_2 ahF
    exact ifF (by omega) rfl
  | succ k ih =>
    intro f j hj hf
    obtain ⟨f, rfl, hf⟩ := fu_pos hf
    have n1 : R_lineFor_2 f 27 q e (w32 ((j : Int) + 1)) h = some (ahF ls (RR h) q k (j + 1)) := by
      rw [w32_e (by omega)]
      exact ih f (j + 1) (by omega) (by omega)
    unfold R_lineFor_2 ahF
    refine ifT (by omega) ?_
    refine gB H.t27 ?_
    rw [H.p27_19]
    refine gB ⟨Or.inr H.t44, by omega, by rw [H.l44]; omega⟩ ?_
    by_cases t : hCe h 44 (j : Int) = 0
    · refine ifT t ?_
      rw [if_neg (fun z => by have := of_decide_eq_true z.1; exact this t)]
      exact n1
    · refine ifF t ?_
      refine gB H.t27 ?_
      rw [H.p27_8]
      refine gB ⟨H.t33, by omega, by rw [H.l33]; omega⟩ ?_
      rw [hn j (by omega)]
      by_cases q2 : (gl ls j).1.1 = q
      · refine ifT q2 ?_
        rw [if_pos ⟨decide_eq_true t, q2⟩]
      · refine ifF q2 ?_
        rw [if_neg (fun z => q2 z.2)]
        exact n1
theorem s_lineFor {h : AH} (H : Sh h) {ls : List LN} {e : Nat} (he : e ≤ 60) (hn : ∀ j, j < e → hCe h 33 (j : Int) = (gl ls j).1.1) {q : Int} : R_lineFor 27 q e h = some (ahS ls (RR h) e q) := lf_loop H he hn e FU 0 (by omega) (fu_big (by omega))
theorem ha_loop {h : AH} (H : Sh h) {ls : List LN} {e : Nat} (he : e ≤ 60) (hn : ∀ j, j < e → hCe h 33 (j : Int) = (gl ls j).1.1) {qa fr : Int} {l : List RW} (R : RQ h qa fr l) (tq : hTy h qa = 21) (lq : fr + l.length ≤ hLn h qa) (h0 : 0 ≤ fr ∧ fr ≤ 2000) (h9 : l.length ≤ 9) : ∀ (n f j : Nat), j + n = l.length → n < f → R_hasAll_3 f 27 qa fr l.length e (fr + j) h = some (b2i (sdL ls (RR h) e (l.drop j))) := by
  intro n
  induction n with
  | zero =>
    intro f j hj hf
    obtain ⟨f, rfl, -⟩ := fu_pos hf
    unfold R_hasAll_3
    rw [w32_e (by omega)]
    refine ifF (by omega) ?_
    rw [dr_e (by omega)]
    rfl
  | succ n ih =>
    intro f j hj hf
    obtain ⟨f, rfl, hf⟩ := fu_pos hf
    unfold R_hasAll_3
    rw [w32_e (by omega)]
    refine ifT (by omega) ?_
    refine gB ⟨tq, by omega, by omega⟩ ?_
    refine gB H.t27 ?_
    rw [R j (by omega)]
    refine cB (s_lineFor H he hn) ?_
    rw [gt_dr (show j < l.length by omega), sdL_c]
    rcases ahS_c ls (RR h) (gt l j).1 e with z | ⟨i, a, -, -, z⟩
    · refine ifT z ?_
      rw [decide_eq_false (by omega)]; rfl
    · refine ifF (by omega) ?_
      rw [decide_eq_true (by omega), Bool.true_and, w32_e (by omega), show fr + (j : Int) + 1 = fr + ((j + 1 : Nat) : Int) by omega]
      exact ih f (j + 1) (by omega) (by omega)
theorem s_hasAll {h : AH} (H : Sh h) {ls : List LN} {e : Nat} (he : e ≤ 60) (hn : ∀ j, j < e → hCe h 33 (j : Int) = (gl ls j).1.1) {qa fr : Int} {l : List RW} (R : RQ h qa fr l) (tq : hTy h qa = 21) (lq : fr + l.length ≤ hLn h qa) (h0 : 0 ≤ fr ∧ fr ≤ 2000) (h9 : l.length ≤ 9) : R_hasAll 27 qa fr l.length e h = some (b2i (sdL ls (RR h) e l)) := by
  unfold R_hasAll
  have := ha_loop H he hn R tq lq h0 h9 l.length FU 0 (by omega) (fu_big (by omega))
  rw [show ((0 : Nat) : Int) = 0 from rfl, Int.add_zero, List.drop_zero] at this
  exact this
/-! ### pairs -/
theorem wp_loop {k : Nat} (hk : k ≤ 115) {l : LN} {p q : Int} (hn : okN l.1.1) (hp : okP p) (hq : okP q) (hl : ∀ r ∈ l.2.2, 1 ≤ r.1) : ∀ (n f j : Nat) (h : AH), j + n = l.2.2.length → n < f → Sh h → LM h k l → ∃ h', R_wrongPair_67 f 27 k p q l.1.1 j h = some (if u9 l.1.1 p q (l.2.2.drop j) then 0 else 9, h') ∧ Fr QK h h' := by
  have n2 := hn.2
  have n1 := hn.1
  intro n
  induction n with
  | zero =>
    intro f j h hj hf H L
    obtain ⟨f, rfl, -⟩ := fu_pos hf
    refine ⟨h, ?_, Fr.rf⟩
    unfold R_wrongPair_67
    refine gB H.t27 ?_
    rw [H.p27_13]
    refine gB ⟨H.t38, by omega, by rw [H.l38]; omega⟩ ?_
    rw [L.2.2.1]
    refine ifF (by omega) ?_
    rw [dr_e (by omega)]
    rfl
  | succ n ih =>
    intro f j h hj hf H L
    obtain ⟨f, rfl, hf⟩ := fu_pos hf
    have hj' : j < l.2.2.length := by omega
    have u2 := L.2.2.2.1
    have hr := hl _ (gt_mem hj')
    have db := dv_bd (n := l.1.1 + 1) (q := (gt l.2.2 j).1) (by omega) hr
    obtain ⟨h1, e1, F1⟩ := s_Rsequence H hp hq (k := (l.1.1 + 1) / (gt l.2.2 j).1) (m := l.1.1) (by omega) (by omega)
    have H1 := H.fr F1 fun b i => QK.mut
    have L1 := L.fr F1 fun b i y z => by unfold MK at y; unfold QK at z; omega
    obtain ⟨h2, e2, F2⟩ := ih f (j + 1) h1 (by omega) (by omega) H1 L1
    have sb := sq_bd (p := p) (q := q) (k := (l.1.1 + 1) / (gt l.2.2 j).1) (m := l.1.1) (by omega)
    rw [gt_dr hj', u9_c]
    by_cases g : gcS (sqS p q ((l.1.1 + 1) / (gt l.2.2 j).1) l.1.1) l.1.1 = 1
    · refine ⟨h2, ?_, F1.tr F2⟩
      unfold R_wrongPair_67
      refine gB H.t27 ?_
      rw [H.p27_13]
      refine gB ⟨H.t38, by omega, by rw [H.l38]; omega⟩ ?_
      rw [L.2.2.1]
      refine ifT (by omega) ?_
      refine gB H.t27 ?_
      rw [H.p27_17, w32_e (z := 9 * (k : Int)) (by omega), w32_e (by omega)]
      refine gB ⟨H.t42, by omega, by rw [H.l42]; omega⟩ ?_
      rw [(L.2.2.2.2 j hj').1, w64_e (z := l.1.1 + 1) (by omega), td_e (by omega), w64_e (by omega)]
      refine gB (by omega) ?_
      refine gB H.t27 ?_
      refine cB e1 ?_
      refine cB (s_common (by omega) (by omega)) ?_
      refine ifT g ?_
      rw [decide_eq_true g, Bool.true_and, w32_e (by omega)]
      exact e2
    · refine ⟨h1, ?_, F1⟩
      unfold R_wrongPair_67
      refine gB H.t27 ?_
      rw [H.p27_13]
      refine gB ⟨H.t38, by omega, by rw [H.l38]; omega⟩ ?_
      rw [L.2.2.1]
      refine ifT (by omega) ?_
      refine gB H.t27 ?_
      rw [H.p27_17, w32_e (z := 9 * (k : Int)) (by omega), w32_e (by omega)]
      refine gB ⟨H.t42, by omega, by rw [H.l42]; omega⟩ ?_
      rw [(L.2.2.2.2 j hj').1, w64_e (z := l.1.1 + 1) (by omega), td_e (by omega), w64_e (by omega)]
      refine gB (by omega) ?_
      refine gB H.t27 ?_
      refine cB e1 ?_
      refine cB (s_common (by omega) (by omega)) ?_
      refine ifF g ?_
      rw [decide_eq_false g]; rfl
theorem s_wrongPair {h : AH} (H : Sh h) {k : Nat} (hk : k ≤ 115) {l : LN} (L : LM h k l) {p q : Int} (hn : okN l.1.1) (hp : okP p) (hq : okP q) (hl : ∀ r ∈ l.2.2, 1 ≤ r.1) : ∃ h', R_wrongPair 27 k p q h = some (upS l.1.1 p q l.2.2, h') ∧ Fr QK h h' := by
  have n2 := hn.2
  have n1 := hn.1
  have p1 := hp.1
  have p2 := hp.2
  have q1 := hq.1
  have q2 := hq.2
  have pb := mul_bd (a := p) (b := p) ⟨by omega, by omega⟩ ⟨by omega, by omega⟩
  obtain ⟨h1, e1, F1⟩ := s_Rsequence H hp hq (k := l.1.1 + 1) (m := l.1.1) (by omega) (by omega)
  have H1 := H.fr F1 fun b i => QK.mut
  have L1 := L.fr F1 fun b i y z => by unfold MK at y; unfold QK at z; omega
  have u2 := L.2.2.2.1
  obtain ⟨h2, e2, F2⟩ := wp_loop hk hn hp hq hl l.2.2.length FU 0 h1 (by omega) (fu_big (by omega)) H1 L1
  rw [List.drop_zero] at e2
  have st : ∀ {r}, (if jaS (p * p - 4 * q) l.1.1 = -1 then (if gcS q l.1.1 = 1 then (if sqS p q (l.1.1 + 1) l.1.1 = 0 then R_wrongPair_67 FU 27 k p q l.1.1 0 h1 else some (8, h1)) else some (7, h)) else some (7, h)) = r → R_wrongPair 27 k p q h = r := by
    rintro r rfl
    unfold R_wrongPair
    refine gB H.t27 ?_
    rw [H.p27_8]
    refine gB ⟨H.t33, by omega, by rw [H.l33]; omega⟩ ?_
    rw [L.1.1]
    simp (disch := omega) only [w64_e]
    refine cB (s_signOf (by unfold in64; omega) (by omega)) ?_
    congr 1
    refine cB (s_common (by omega) (by omega)) ?_
    congr 1
    refine gB H.t27 ?_
    exact cB e1 rfl
  unfold upS
  by_cases g1 : jaS (p * p - 4 * q) l.1.1 = -1
  · by_cases g2 : gcS q l.1.1 = 1
    · rw [if_pos ⟨g1, g2⟩]
      by_cases g3 : sqS p q (l.1.1 + 1) l.1.1 = 0
      · rw [if_pos g3]
        exact ⟨h2, st (ifT g1 (ifT g2 (ifT g3 e2))), F1.tr F2⟩
      · rw [if_neg g3]
        exact ⟨h1, st (ifT g1 (ifT g2 (ifF g3 rfl))), F1⟩
    · rw [if_neg (fun z => g2 z.2)]
      exact ⟨h, st (ifT g1 (ifF g2 rfl)), Fr.rf⟩
  · rw [if_neg (fun z => g1 z.1)]
    exact ⟨h, st (ifF g1 rfl), Fr.rf⟩
