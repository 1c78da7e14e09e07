/-! lines and what is wrong with them -/
def okN (n : Int) : Prop := 2 ≤ n ∧ n ≤ 1000000000
def okB (b : Int) : Prop := 2 ≤ b ∧ b ≤ 999
def okP (p : Int) : Prop := 1 ≤ p ∧ p ≤ 99
def okL (l : LN) : Prop := okN l.1.1 ∧ 0 ≤ l.1.2.1 ∧ l.1.2.1 ≤ 4 ∧ (∀ r ∈ l.2.1, okR r ∧ okB r.2.2) ∧ (∀ r ∈ l.2.2, okR r ∧ r.2.2 = 0) ∧ (l.1.2.1 = 0 ∨ l.1.2.1 = 3 → l.2.1 = []) ∧ (l.1.2.1 ≤ 2 → l.2.2 = []) ∧ (3 ≤ l.1.2.1 → okP l.1.2.2.1 ∧ okP l.1.2.2.2) ∧ (l.1.2.1 ≤ 2 → l.1.2.2.1 = 0 ∧ l.1.2.2.2 = 0)
/-! ### simple methods -/
theorem s_begin {h : AH} {a n s : Int} (B : Blk h a) : ∃ h', Line_begin a n s h = some h' ∧ Fr (LK a) h h' ∧ LD h' a ((n, s, 0, 0), [], []) ∧ hCe h' a 6 = -1 := by
  have B0 := B
  obtain ⟨t0, t1, t2, t3, t4, l2, l4, p0, p1, q0, q1⟩ := B
  let H := hSet (hSet (hSet (hSet (hSet (hSet (hSet h a 2 n) a 3 s) a 4 0) a 5 0) (a + 1) 1 0) (a + 3) 1 0) a 6 (-1)
  have F : Fr (LK a) h H := by
    refine Fr.setT (Fr.setT (Fr.setT (Fr.setT (Fr.setT (Fr.setT (Fr.set ?_) ?_) ?_) ?_) ?_) ?_) ?_ <;> (unfold LK SK; omega)
  have c : ∀ b j, b ≠ a → hCe H b j = if b = a + 3 ∧ j = 1 then 0 else if b = a + 1 ∧ j = 1 then 0 else hCe h b j := by
    intro b j q
    show hCe (hSet (hSet (hSet (hSet (hSet (hSet (hSet h a 2 n) a 3 s) a 4 0) a 5 0) (a + 1) 1 0) (a + 3) 1 0) a 6 (-1)) b j = _
    rw [cN (Or.inl q)]
    by_cases q1 : b = a + 3 ∧ j = 1
    · rw [if_pos q1, q1.1, q1.2, cS]
    · rw [if_neg q1, cN (by omega)]
      by_cases q2 : b = a + 1 ∧ j = 1
      · rw [if_pos q2, q2.1, q2.2, cS]
      · rw [if_neg q2, cN (by omega), cN (by omega), cN (by omega), cN (by omega), cN (by omega)]
  have nil : ∀ s', SB H s' → hCe H s' 1 = 0 → SD H s' [] := fun s' S e => ⟨S, by rw [e]; rfl, Nat.zero_le _, fun i hi => absurd hi (Nat.not_lt_zero i)⟩
  have BH : Blk H a := B0.fr F (by unfold LK SK; omega) (by unfold LK SK; omega) (by unfold LK SK; omega) (by unfold LK SK; omega)
  refine ⟨H, ?_, F, ⟨BH, ?_, nil _ BH.d ?_, nil _ BH.u ?_⟩, cS _ _ _ _⟩
  · unfold Line_begin
    refine gB t0 ?_
    refine gB t0 ?_
    refine gB t0 ?_
    refine gB t0 ?_
    refine gB t0 ?_
    rw [cN (by omega), cN (by omega), cN (by omega), cN (by omega), p0]
    refine gB t1 ?_
    refine gB t0 ?_
    rw [cN (by omega), cN (by omega), cN (by omega), cN (by omega), cN (by omega), p1]
    refine gB t3 ?_
    refine gB t0 ?_
    rfl
  · refine ⟨?_, ?_, ?_, ?_⟩
    · show hCe (hSet (hSet (hSet (hSet (hSet (hSet (hSet h a 2 n) a 3 s) a 4 0) a 5 0) (a + 1) 1 0) (a + 3) 1 0) a 6 (-1)) a 2 = n
      rw [cN (by omega), cN (by omega), cN (by omega), cN (by omega), cN (by omega), cN (by omega), cS]
    · show hCe (hSet (hSet (hSet (hSet (hSet (hSet (hSet h a 2 n) a 3 s) a 4 0) a 5 0) (a + 1) 1 0) (a + 3) 1 0) a 6 (-1)) a 3 = s
      rw [cN (by omega), cN (by omega), cN (by omega), cN (by omega), cN (by omega), cS]
    · show hCe (hSet (hSet (hSet (hSet (hSet (hSet (hSet h a 2 n) a 3 s) a 4 0) a 5 0) (a + 1) 1 0) (a + 3) 1 0) a 6 (-1)) a 4 = 0
      rw [cN (by omega), cN (by omega), cN (by omega), cN (by omega), cS]
    · show hCe (hSet (hSet (hSet (hSet (hSet (hSet (hSet h a 2 n) a 3 s) a 4 0) a 5 0) (a + 1) 1 0) (a + 3) 1 0) a 6 (-1)) a 5 = 0
      rw [cN (by omega), cN (by omega), cN (by omega), cS]
  · rw [c _ _ (by omega), if_neg (by omega), if_pos ⟨rfl, rfl⟩]
  · rw [c _ _ (by omega), if_pos ⟨rfl, rfl⟩]
theorem s_hasPQ {h : AH} {a : Int} {l : LN} (L : LD h a l) : Line_hasPQ a h = some (b2i (decide (l.1.2.1 = 3 ∨ l.1.2.1 = 4))) := by
  unfold Line_hasPQ
  refine gB L.1.t ?_
  rw [L.2.1.2.1]
  by_cases q : l.1.2.1 = 3
  · refine ifT q ?_
    rw [decide_eq_true (Or.inl q)]; rfl
  · refine ifF q ?_
    refine gB L.1.t ?_
    by_cases q4 : l.1.2.1 = 4
    · refine ifT q4 ?_
      rw [decide_eq_true (Or.inr q4)]; rfl
    · refine ifF q4 ?_
      rw [decide_eq_false (by omega)]; rfl
theorem s_rowCount {h : AH} {a : Int} {l : LN} (L : LD h a l) : Line_rowCount a h = some (((l.2.1 ++ l.2.2).length : Nat) : Int) := by
  have h1 := L.2.2.1.2.2.1
  have h2 := L.2.2.2.2.2.1
  unfold Line_rowCount
  refine gB L.1.t ?_
  rw [L.1.p0]
  refine gB L.1.d.1 ?_
  refine gB L.1.t ?_
  rw [L.1.p1]
  refine gB L.1.u.1 ?_
  rw [L.2.2.1.2.1, L.2.2.2.2.1, w32_e (by omega), List.length_append]
  congr 1
theorem gt_ap {l k : List RW} {i : Nat} : gt (l ++ k) i = if i < l.length then gt l i else gt k (i - l.length) := by
  unfold gt
  rw [List.getD_eq_getElem?_getD, List.getD_eq_getElem?_getD, List.getD_eq_getElem?_getD]
  by_cases q : i < l.length
  · rw [if_pos q, List.getElem?_append_left q]
  · rw [if_neg q, List.getElem?_append_right (by omega)]
theorem s_divisor {h : AH} {a : Int} {l : LN} (L : LD h a l) {i : Nat} (hi : i < (l.2.1 ++ l.2.2).length) : Line_divisor a i h = some (gt (l.2.1 ++ l.2.2) i).1 := by
  have h1 := L.2.2.1.2.2.1
  have h2 := L.2.2.2.2.2.1
  rw [List.length_append] at hi
  unfold Line_divisor
  refine gB L.1.t ?_
  rw [L.1.p0]
  refine gB L.1.d.1 ?_
  rw [L.2.2.1.2.1, gt_ap]
  by_cases q : i < l.2.1.length
  · refine ifT (by omega) ?_
    refine gB L.1.t ?_
    refine gB L.1.d.1 ?_
    refine cB (s_cell0 L.2.2.1 q) ?_
    rw [if_pos q]
  · refine ifF (by omega) ?_
    refine gB L.1.t ?_
    refine gB L.1.t ?_
    refine gB L.1.d.1 ?_
    rw [L.1.p1]
    refine gB L.1.u.1 ?_
    rw [L.2.2.1.2.1, w32_e (by omega), show (i : Int) - (l.2.1.length : Int) = ((i - l.2.1.length : Nat) : Int) by omega]
    refine cB (s_cell0 L.2.2.2 (by omega)) ?_
    rw [if_neg q]
theorem s_side {h : AH} {a v : Int} {l : LN} (L : LD h a l) : Line_side a v h = some (if v = 0 then a + 1 else a + 3) := by
  unfold Line_side
  by_cases q : v = 0
  · refine ifT q ?_
    refine gB L.1.t ?_
    rw [L.1.p0, if_pos q]
  · refine ifF q ?_
    refine gB L.1.t ?_
    rw [L.1.p1, if_neg q]
/-! ### faults of a line by itself -/
def rfS (n q b : Int) : Int := if pwS b (n - 1) n = 1 then (if gcS ((pwS b ((n - 1) / q) n - 1) % n) n = 1 then 0 else 6) else 5
theorem pw_split {b n : Int} {j k : Nat} (h : j ≤ k) (h0 : b ^ j % n = 0) : b ^ k % n = 0 := by
  have e : b ^ k = b ^ j * b ^ (k - j) := by rw [← Int.pow_add]; congr 1; omega
  rw [e, Int.mul_emod, h0, Int.zero_mul, Int.zero_emod]
theorem s_rowFault {n q b : Int} (hn : okN n) (hq : 1 ≤ q) (hb : 0 ≤ b) : Checker_rowFault n q b = some (rfS n q b) := by
  obtain ⟨n1, n2⟩ := hn
  have d1 : 0 ≤ (n - 1) / q := Int.ediv_nonneg (by omega) (by omega)
  have d2 : (n - 1) / q ≤ n - 1 := Int.ediv_le_self _ (by omega)
  unfold Checker_rowFault rfS
  rw [w32_e (by omega)]
  refine cB (s_powerLeft hb (by omega) (by omega)) ?_
  by_cases h1 : pwS b (n - 1) n = 1
  · refine ifT h1 ?_
    refine ifF (by omega) ?_
    rw [td_e (by omega), w32_e (by omega), if_pos h1]
    refine gB (by omega) ?_
    refine cB (s_powerLeft hb (by omega) (by omega)) ?_
    have hx := pwS_bd (a := b) (k := (n - 1) / q) (m := n) (by omega)
    have hx0 : pwS b ((n - 1) / q) n ≠ 0 := fun z => by
      have := pw_split (b := b) (n := n) (j := ((n - 1) / q).toNat) (k := (n - 1).toNat) (by omega) z
      unfold pwS at h1
      omega
    generalize pwS b ((n - 1) / q) n = x at hx hx0
    rw [w64_e (by omega), Int.emod_eq_of_lt (a := x - 1) (by omega) (by omega)]
    refine cB (s_commonOf (by omega) (by omega)) ?_
    by_cases h2 : gcS (x - 1) n = 1
    · exact ifT h2 (by rw [if_pos h2])
    · exact ifF h2 (by rw [if_neg h2])
  · refine ifF h1 ?_
    rw [if_neg h1]
theorem rf_c (n q b : Int) : rfS n q b = 5 ∧ pwS b (n - 1) n ≠ 1 ∨ pwS b (n - 1) n = 1 ∧ (rfS n q b = 0 ∧ gcS ((pwS b ((n - 1) / q) n - 1) % n) n = 1 ∨ rfS n q b = 6 ∧ gcS ((pwS b ((n - 1) / q) n - 1) % n) n ≠ 1) := by
  unfold rfS
  by_cases h1 : pwS b (n - 1) n = 1
  · rw [if_pos h1]
    refine Or.inr ⟨h1, ?_⟩
    by_cases h2 : gcS ((pwS b ((n - 1) / q) n - 1) % n) n = 1
    · rw [if_pos h2]; exact Or.inl ⟨rfl, h2⟩
    · rw [if_neg h2]; exact Or.inr ⟨rfl, h2⟩
  · rw [if_neg h1]; exact Or.inl ⟨rfl, h1⟩
def d5 (n : Int) (l : List RW) : Bool := l.all fun r => decide (pwS r.2.2 (n - 1) n = 1)
def d6 (n : Int) (l : List RW) : Bool := l.all fun r => decide (gcS ((pwS r.2.2 ((n - 1) / r.1) n - 1) % n) n = 1)
def dfS (n : Int) (l : List RW) : Int := if d5 n l then (if d6 n l then 0 else 6) else 5
theorem d5_c {n : Int} {r : RW} {l : List RW} : d5 n (r :: l) = (decide (pwS r.2.2 (n - 1) n = 1) && d5 n l) := List.all_cons
theorem d6_c {n : Int} {r : RW} {l : List RW} : d6 n (r :: l) = (decide (gcS ((pwS r.2.2 ((n - 1) / r.1) n - 1) % n) n = 1) && d6 n l) := List.all_cons
theorem s_max {a b : Int} : Math_max a b = some (if a < b then b else a) := by
  unfold Math_max
  by_cases q : a < b
  · rw [if_pos q, if_pos q]
  · rw [if_neg q, if_neg q]
theorem s_min {a b : Int} : Math_min a b = some (if b < a then b else a) := by
  unfold Math_min
  by_cases q : b < a
  · rw [if_pos q, if_pos q]
  · rw [if_neg q, if_neg q]
theorem df_loop {h : AH} {a : Int} {l : LN} (L : LD h a l) (hn : okN l.1.1) (hl : ∀ r ∈ l.2.1, 1 ≤ r.1 ∧ 0 ≤ r.2.2) : ∀ (n f i : Nat) (acc : Int), i + n = l.2.1.length → n < f → (acc = 0 ∨ acc = 6) → Checker_downFault_9 f a (a + 1) acc i h = some (if d5 l.1.1 (l.2.1.drop i) then (if acc = 6 ∨ d6 l.1.1 (l.2.1.drop i) = false then 6 else 0) else 5) := by
  have h9 := L.2.2.1.2.2.1
  intro n
  induction n with
  | zero =>
    intro f i acc hi hf ha
    obtain ⟨f, rfl, -⟩ := fu_pos hf
    unfold Checker_downFault_9
    refine gB L.1.d.1 ?_
    rw [L.2.2.1.2.1]
    refine ifF (by omega) ?_
    rw [dr_e (by omega)]
    rcases ha with rfl | rfl <;> rfl
  | succ n ih =>
    intro f i acc hi hf ha
    obtain ⟨f, rfl, hf⟩ := fu_pos hf
    have hi' : i < l.2.1.length := by omega
    have hr := hl _ (gt_mem hi')
    unfold Checker_downFault_9
    refine gB L.1.d.1 ?_
    rw [L.2.2.1.2.1]
    refine ifT (by omega) ?_
    refine gB L.1.t ?_
    rw [L.2.1.1]
    refine gB L.1.d.1 ?_
    refine cB (s_cell0 L.2.2.1 hi') ?_
    refine gB L.1.d.1 ?_
    refine cB (s_cell2 L.2.2.1 hi') ?_
    refine cB (s_rowFault hn hr.1 hr.2) ?_
    rw [gt_dr hi', d5_c, d6_c]
    rcases rf_c l.1.1 (gt l.2.1 i).1 (gt l.2.1 i).2.2 with ⟨e, g⟩ | ⟨g, ⟨e, g2⟩ | ⟨e, g2⟩⟩
    · refine ifT e ?_
      rw [decide_eq_false g]; rfl
    · refine ifF (by omega) ?_
      refine cB s_max ?_
      rw [e, if_neg (by omega), w32_e (by omega)]
      refine (ih f (i + 1) acc (by omega) (by omega) ha).trans ?_
      rw [decide_eq_true g, decide_eq_true g2, Bool.true_and, Bool.true_and]
    · refine ifF (by omega) ?_
      refine cB s_max ?_
      have e6 : (if acc < (6 : Int) then 6 else acc) = 6 := by rcases ha with rfl | rfl <;> rfl
      rw [e, e6, w32_e (by omega)]
      refine (ih f (i + 1) 6 (by omega) (by omega) (Or.inr rfl)).trans ?_
      rw [decide_eq_true g, decide_eq_false g2, Bool.true_and, Bool.false_and]
      simp
theorem s_downFault {h : AH} {a : Int} {l : LN} (L : LD h a l) (hn : okN l.1.1) (hl : ∀ r ∈ l.2.1, 1 ≤ r.1 ∧ 0 ≤ r.2.2) : Checker_downFault a h = some (dfS l.1.1 l.2.1) := by
  have h9 := L.2.2.1.2.2.1
  unfold Checker_downFault
  refine gB L.1.t ?_
  rw [L.1.p0]
  have := df_loop L hn hl l.2.1.length FU 0 0 (by omega) (fu_big (by omega)) (Or.inl rfl)
  refine this.trans ?_
  rw [List.drop_zero]
  unfold dfS
  cases d5 l.1.1 l.2.1 <;> cases d6 l.1.1 l.2.1 <;> rfl
def u9 (n p q : Int) (l : List RW) : Bool := l.all fun r => decide (gcS (sqS p q ((n + 1) / r.1) n) n = 1)
def upS (n p q : Int) (l : List RW) : Int := if jaS (p * p - 4 * q) n = -1 ∧ gcS q n = 1 then (if sqS p q (n + 1) n = 0 then (if u9 n p q l then 0 else 9) else 8) else 7
theorem u9_c {n p q : Int} {r : RW} {l : List RW} : u9 n p q (r :: l) = (decide (gcS (sqS p q ((n + 1) / r.1) n) n = 1) && u9 n p q l) := List.all_cons
theorem sq_bd {p q k m : Int} (hm : 0 < m) : 0 ≤ sqS p q k m ∧ sqS p q k m < m := mod_bd hm
theorem dv_bd {n q : Int} (hn : 0 ≤ n) (hq : 1 ≤ q) : 0 ≤ n / q ∧ n / q ≤ n := ⟨Int.ediv_nonneg hn (by omega), Int.ediv_le_self _ hn⟩
theorem uf_loop {h : AH} {a : Int} {l : LN} (L : LD h a l) (hn : okN l.1.1) (hp : okP l.1.2.2.1) (hq : okP l.1.2.2.2) (hl : ∀ r ∈ l.2.2, 1 ≤ r.1) : ∀ (n f i : Nat), i + n = l.2.2.length → n < f → Checker_upFault_91 f a l.1.1 i h = some (if u9 l.1.1 l.1.2.2.1 l.1.2.2.2 (l.2.2.drop i) then 0 else 9) := by
  have h9 := L.2.2.2.2.2.1
  intro n
  induction n with
  | zero =>
    intro f i hi hf
    obtain ⟨f, rfl, -⟩ := fu_pos hf
    unfold Checker_upFault_91
    refine gB L.1.t ?_
    rw [L.1.p1]
    refine gB L.1.u.1 ?_
    rw [L.2.2.2.2.1]
    refine ifF (by omega) ?_
    rw [dr_e (by omega)]
    rfl
  | succ n ih =>
    intro f i hi hf
    obtain ⟨f, rfl, hf⟩ := fu_pos hf
    have hi' : i < l.2.2.length := by omega
    have hr := hl _ (gt_mem hi')
    unfold Checker_upFault_91
    refine gB L.1.t ?_
    rw [L.1.p1]
    refine gB L.1.u.1 ?_
    rw [L.2.2.2.2.1]
    refine ifT (by omega) ?_
    refine gB L.1.t ?_
    refine gB L.1.u.1 ?_
    refine cB (s_cell0 L.2.2.2 hi') ?_
    refine ifF (by omega) ?_
    refine gB L.1.t ?_
    refine gB L.1.t ?_
    rw [L.2.1.2.2.1, L.2.1.2.2.2]
    have n2 := hn.2
    have n1 := hn.1
    have db := dv_bd (n := l.1.1 + 1) (q := (gt l.2.2 i).1) (by omega) hr
    rw [w64_e (z := l.1.1 + 1) (by omega), td_e (by omega), w64_e (by omega)]
    refine gB (by omega) ?_
    refine cB (s_sequenceLeft hp hq (by omega) (by omega)) ?_
    have sb := sq_bd (p := l.1.2.2.1) (q := l.1.2.2.2) (k := (l.1.1 + 1) / (gt l.2.2 i).1) (m := l.1.1) (by omega)
    refine cB (s_commonOf (by omega) (by omega)) ?_
    rw [gt_dr hi', u9_c]
    by_cases g : gcS (sqS l.1.2.2.1 l.1.2.2.2 ((l.1.1 + 1) / (gt l.2.2 i).1) l.1.1) l.1.1 = 1
    · refine ifT g ?_
      rw [decide_eq_true g, Bool.true_and, w32_e (by omega)]
      exact ih f (i + 1) (by omega) (by omega)
    · refine ifF g ?_
      rw [decide_eq_false g]; rfl
theorem s_upFault {h : AH} {a : Int} {l : LN} (L : LD h a l) (hn : okN l.1.1) (hs : l.1.2.1 = 3 ∨ l.1.2.1 = 4) (hp : okP l.1.2.2.1) (hq : okP l.1.2.2.2) (hl : ∀ r ∈ l.2.2, 1 ≤ r.1) : Checker_upFault a h = some (upS l.1.1 l.1.2.2.1 l.1.2.2.2 l.2.2) := by
  have h9 := L.2.2.2.2.2.1
  have n2 := hn.2
  have n1 := hn.1
  have p1 := hp.1
  have p2 := hp.2
  have q1 := hq.1
  have q2 := hq.2
  unfold Checker_upFault upS
  refine gB L.1.t ?_
  refine cB (s_hasPQ L) ?_
  rw [decide_eq_true hs]
  refine ifF (by decide) ?_
  refine gB L.1.t ?_
  refine gB L.1.t ?_
  refine gB L.1.t ?_
  refine gB L.1.t ?_
  rw [L.2.1.1, L.2.1.2.2.1, L.2.1.2.2.2]
  have pb := mul_bd (a := l.1.2.2.1) (b := l.1.2.2.1) ⟨by omega, by omega⟩ ⟨by omega, by omega⟩
  simp (disch := omega) only [w32_e, w64_e]
  refine cB (s_jacobiOf (by unfold in64; omega) (by omega)) ?_
  by_cases g1 : jaS (l.1.2.2.1 * l.1.2.2.1 - 4 * l.1.2.2.2) l.1.1 = -1
  · refine ifT g1 ?_
    refine gB L.1.t ?_
    refine cB (s_commonOf (by omega) (by omega)) ?_
    by_cases g2 : gcS l.1.2.2.2 l.1.1 = 1
    · refine ifT g2 ?_
      refine gB L.1.t ?_
      refine gB L.1.t ?_
      rw [if_pos ⟨g1, g2⟩]
      refine cB (s_sequenceLeft hp hq (by omega) (by omega)) ?_
      by_cases g3 : sqS l.1.2.2.1 l.1.2.2.2 (l.1.1 + 1) l.1.1 = 0
      · refine ifT g3 ?_
        rw [if_pos g3]
        have := uf_loop L hn hp hq hl l.2.2.length FU 0 (by omega) (fu_big (by omega))
        rw [List.drop_zero] at this
        exact this
      · refine ifF g3 ?_
        rw [if_neg g3]
    · refine ifF g2 ?_
      rw [if_neg (fun z => g2 z.2)]
  · refine ifF g1 ?_
    rw [if_neg (fun z => g1 z.1)]
theorem s_upFault0 {h : AH} {a : Int} {l : LN} (L : LD h a l) (hs : ¬ (l.1.2.1 = 3 ∨ l.1.2.1 = 4)) : Checker_upFault a h = some 0 := by
  unfold Checker_upFault
  refine gB L.1.t ?_
  refine cB (s_hasPQ L) ?_
  rw [decide_eq_false hs]
  exact ifT rfl rfl
/-! ### products -/
def enS (n f g : Int) : Bool := decide (n < (f / gcS f g * g) * (f / gcS f g * g)) && !(decide (1 < n % (f / gcS f g * g)) && decide (n % (f / gcS f g * g) < n) && decide (n % (n % (f / gcS f g * g)) = 0))
def pfS (n s f g : Int) : Int := if s = 1 then (if f = n - 1 then 0 else 3) else if s = 2 then (if (n - 1) % f = 0 then (if n < f * f then 0 else 4) else 3) else if s = 3 then (if g = n + 1 then 0 else 3) else if s = 4 then (if (n - 1) % f = 0 ∧ (n + 1) % g = 0 then (if enS n f g then 0 else 4) else 3) else 0
theorem cap_md {m f : Int} (hm : 1 ≤ m ∧ m < 2000000000) (hf : 1 ≤ f) : m % cap 2000000000 f = 0 ↔ m % f = 0 := by
  by_cases q : f < 2000000000
  · rw [cap_lt q]
  · rw [cap_ge (by omega), Int.emod_eq_of_lt (by omega) (by omega), Int.emod_eq_of_lt (by omega) (by omega)]
theorem md_le {m f : Int} (hm : 1 ≤ m) (hf : 1 ≤ f) (h : m % f = 0) : f ≤ m := Int.le_of_dvd (by omega) (Int.dvd_of_emod_eq_zero h)
theorem cap_eq {m f : Int} (hm : m < 2000000000) : cap 2000000000 f = m ↔ f = m := by
  by_cases q : f < 2000000000
  · rw [cap_lt q]
  · rw [cap_ge (by omega)]; omega
theorem cap_p {c f : Int} (hc : 1 ≤ c) (hf : 1 ≤ f) : 1 ≤ cap c f := by
  unfold cap
  split <;> omega
theorem s_divides {d n : Int} (hd : 1 ≤ d) (hn : 0 ≤ n) : Checker_divides d n = some (b2i (decide (n % d = 0))) := by
  unfold Checker_divides
  refine ifT (by omega) ?_
  rw [tm_e hn]
  refine gB (by omega) ?_
  by_cases q : n % d = 0
  · refine ifT q ?_
    rw [decide_eq_true q]; rfl
  · refine ifF q ?_
    rw [decide_eq_false q]; rfl
theorem gc_pos {a b : Int} (ha : 1 ≤ a) : 1 ≤ gcS a b := by
  unfold gcS
  have := Nat.gcd_pos_of_pos_left (m := a.toNat) b.toNat (by omega)
  omega
theorem gc_dv {a b : Int} (ha : 1 ≤ a) : a / gcS a b * gcS a b = a := by
  refine Int.ediv_mul_cancel ?_
  have : ((Nat.gcd a.toNat b.toNat : Nat) : Int) ∣ ((a.toNat : Nat) : Int) := Int.natCast_dvd_natCast.mpr (Nat.gcd_dvd_left _ _)
  rw [Int.toNat_of_nonneg (by omega)] at this
  exact this
theorem gc_q {a b : Int} (ha : 1 ≤ a) : 1 ≤ a / gcS a b ∧ a / gcS a b ≤ a := by
  have h1 := gc_pos (b := b) ha
  have h2 := gc_dv (b := b) ha
  have h3 := dv_bd (n := a) (by omega) h1
  refine ⟨?_, h3.2⟩
  rcases Int.lt_or_le 0 (a / gcS a b) with q | q
  · omega
  · have : a / gcS a b = 0 := by omega
    rw [this] at h2; omega
theorem lt_sq {n m : Int} (hm : 1 ≤ m) : n / m < m ↔ n < m * m := Int.ediv_lt_iff_lt_mul (by omega)
theorem s_isEnough {n f g : Int} (hn : okN n) (hf : 1 ≤ f ∧ f ≤ 1000000001) (hg : 1 ≤ g ∧ g ≤ 1000000001) : Checker_isEnough f g n = some (b2i (enS n f g)) := by
  have n2 := hn.2
  have n1 := hn.1
  unfold Checker_isEnough enS
  refine cB (s_commonOf (by omega) (by omega)) ?_
  have c1 := gc_pos (b := g) hf.1
  have c2 := gc_q (b := g) hf.1
  refine ifF (by omega) ?_
  rw [td_e (by omega), w64_e (by omega)]
  refine gB (by omega) ?_
  have b1 : 1 ≤ f / gcS f g * g := by
    have := Int.mul_le_mul c2.1 hg.1 (by omega) (by omega)
    omega
  have b2 : f / gcS f g * g ≤ 1000000001 * 1000000001 := Int.mul_le_mul (by omega) hg.2 (by omega) (by omega)
  generalize f / gcS f g * g = m at b1 b2
  have d := dv_bd (n := n) (q := m) (by omega) b1
  rw [w64_e (by omega), td_e (by omega), w64_e (by omega), tm_e (by omega)]
  refine ifF (by omega) ?_
  refine gB (by omega) ?_
  by_cases g1 : n < m * m
  · refine ifT ((lt_sq b1).mpr g1) ?_
    rw [decide_eq_true g1, Bool.true_and]
    refine gB (by omega) ?_
    by_cases g2 : 1 < n % m
    · refine ifT g2 ?_
      rw [decide_eq_true g2, Bool.true_and]
      by_cases g3 : n % m < n
      · refine ifT g3 ?_
        rw [decide_eq_true g3, Bool.true_and, tm_e (by omega)]
        refine gB (by omega) ?_
        by_cases g4 : n % (n % m) = 0
        · refine ifT g4 ?_
          rw [decide_eq_true g4]; rfl
        · refine ifF g4 ?_
          rw [decide_eq_false g4]; rfl
      · refine ifF g3 ?_
        rw [decide_eq_false g3]; rfl
    · refine ifF g2 ?_
      rw [decide_eq_false g2]; rfl
  · refine ifF (fun z => g1 ((lt_sq b1).mp z)) ?_
    rw [decide_eq_false g1]; rfl
theorem s_productFault {h : AH} {a : Int} {l : LN} (L : LD h a l) (hn : okN l.1.1) (hd : ∀ r ∈ l.2.1, okR r) (hu : ∀ r ∈ l.2.2, okR r) : Checker_productFault a h = some (pfS l.1.1 l.1.2.1 (prF l.2.1) (prF l.2.2)) := by
  have n2 := hn.2
  have n1 := hn.1
  have f1 := prF_pos hd
  have g1 := prF_pos hu
  have f2 := cap_p (c := 2000000000) (by omega) f1
  have g2 := cap_p (c := 2000000000) (by omega) g1
  unfold Checker_productFault pfS
  refine gB L.1.t ?_
  refine gB L.1.t ?_
  rw [L.1.p0]
  refine gB L.1.d.1 ?_
  refine cB (s_product L.2.2.1 hd) ?_
  refine gB L.1.t ?_
  rw [L.1.p1]
  refine gB L.1.u.1 ?_
  refine cB (s_product L.2.2.2 hu) ?_
  refine gB L.1.t ?_
  rw [L.2.1.1, L.2.1.2.1, w64_e (z := l.1.1 - 1) (by omega), w64_e (z := l.1.1 + 1) (by omega)]
  have e1 := cap_eq (m := l.1.1 - 1) (f := prF l.2.1) (by omega)
  have e2 := cap_eq (m := l.1.1 + 1) (f := prF l.2.2) (by omega)
  have m1 := cap_md (m := l.1.1 - 1) (f := prF l.2.1) (by omega) f1
  have m2 := cap_md (m := l.1.1 + 1) (f := prF l.2.2) (by omega) g1
  by_cases s1 : l.1.2.1 = 1
  · refine ifT s1 ?_
    rw [if_pos s1]
    by_cases q : prF l.2.1 = l.1.1 - 1
    · exact ifT (e1.mpr q) (by rw [if_pos q])
    · exact ifF (fun z => q (e1.mp z)) (by rw [if_neg q])
  refine ifF s1 ?_
  rw [if_neg s1]
  by_cases s2 : l.1.2.1 = 2
  · refine ifT s2 ?_
    rw [if_pos s2]
    refine cB (s_divides f2 (by omega)) ?_
    by_cases q : (l.1.1 - 1) % prF l.2.1 = 0
    · rw [decide_eq_true (m1.mpr q)]
      refine ifF (by decide) ?_
      have := md_le (by omega) f1 q
      rw [cap_lt (by omega), if_pos q]
      have b := mul_bd (a := prF l.2.1) (b := prF l.2.1) (by omega) (by omega)
      rw [w64_e (by omega)]
      by_cases q2 : l.1.1 < prF l.2.1 * prF l.2.1
      · exact ifT q2 (by rw [if_pos q2])
      · exact ifF q2 (by rw [if_neg q2])
    · rw [decide_eq_false (fun z => q (m1.mp z))]
      refine ifT rfl ?_
      rw [if_neg q]
  refine ifF s2 ?_
  rw [if_neg s2]
  by_cases s3 : l.1.2.1 = 3
  · refine ifT s3 ?_
    rw [if_pos s3]
    by_cases q : prF l.2.2 = l.1.1 + 1
    · exact ifT (e2.mpr q) (by rw [if_pos q])
    · exact ifF (fun z => q (e2.mp z)) (by rw [if_neg q])
  refine ifF s3 ?_
  rw [if_neg s3]
  by_cases s4 : l.1.2.1 = 4
  · refine ifT s4 ?_
    rw [if_pos s4]
    refine cB (s_divides f2 (by omega)) ?_
    by_cases q : (l.1.1 - 1) % prF l.2.1 = 0
    · rw [decide_eq_true (m1.mpr q)]
      refine ifF (by decide) ?_
      refine cB (s_divides g2 (by omega)) ?_
      have z1 := md_le (by omega) f1 q
      by_cases q2 : (l.1.1 + 1) % prF l.2.2 = 0
      · rw [decide_eq_true (m2.mpr q2)]
        refine ifF (by decide) ?_
        rw [if_pos ⟨q, q2⟩]
        have z2 := md_le (by omega) g1 q2
        rw [cap_lt (by omega), cap_lt (by omega)]
        refine cB (s_isEnough hn (by omega) (by omega)) ?_
        cases enS l.1.1 (prF l.2.1) (prF l.2.2)
        · exact ifT rfl rfl
        · exact ifF (by decide) rfl
      · rw [decide_eq_false (fun z => q2 (m2.mp z))]
        refine ifT rfl ?_
        rw [if_neg (fun z => q2 z.2)]
    · rw [decide_eq_false (fun z => q (m1.mp z))]
      refine ifT rfl ?_
      rw [if_neg (fun z => q z.1)]
  refine ifF s4 ?_
  rw [if_neg s4]
/-- faults 3 to 9 -/
def laS (l : LN) : Int := if l.1.2.1 = 0 then 0 else if pfS l.1.1 l.1.2.1 (prF l.2.1) (prF l.2.2) = 0 then (if dfS l.1.1 l.2.1 = 0 then (if l.1.2.1 = 3 ∨ l.1.2.1 = 4 then upS l.1.1 l.1.2.2.1 l.1.2.2.2 l.2.2 else 0) else dfS l.1.1 l.2.1) else pfS l.1.1 l.1.2.1 (prF l.2.1) (prF l.2.2)
theorem s_laterFault {h : AH} {a : Int} {l : LN} (L : LD h a l) (ok : okL l) : Checker_laterFault a h = some (laS l) := by
  obtain ⟨hn, k1, k2, hd, hu, -, -, hpq, -⟩ := ok
  unfold Checker_laterFault laS
  refine gB L.1.t ?_
  rw [L.2.1.2.1]
  by_cases s0 : l.1.2.1 = 0
  · refine ifT s0 ?_
    rw [if_pos s0]
  refine ifF s0 ?_
  rw [if_neg s0]
  refine cB (s_productFault L hn (fun r hr => (hd r hr).1) (fun r hr => (hu r hr).1)) ?_
  unfold Checker_laterFault_23
  by_cases q : pfS l.1.1 l.1.2.1 (prF l.2.1) (prF l.2.2) = 0
  · refine ifT q ?_
    rw [if_pos q]
    refine cB (s_downFault L hn fun r hr => ⟨by have := (hd r hr).1.1; omega, by have := (hd r hr).2.1; omega⟩) ?_
    by_cases q2 : dfS l.1.1 l.2.1 = 0
    · refine ifT q2 ?_
      rw [if_pos q2]
      by_cases s : l.1.2.1 = 3 ∨ l.1.2.1 = 4
      · have := hpq (by omega)
        refine cB (s_upFault L hn s this.1 this.2 fun r hr => by have := (hu r hr).1.1; omega) ?_
        rw [if_pos s]
      · refine cB (s_upFault0 L s) ?_
        rw [if_neg s]
    · refine ifF q2 ?_
      rw [if_neg q2]
  · refine ifF q ?_
    refine ifF q ?_
    rw [if_neg q]
/-! ### costs -/
def pc0 : Nat → Nat → Int
  | 0, _ => 0
  | f + 1, k => if k = 0 then 0 else 1 + ((k % 2 : Nat) : Int) + pc0 f (k / 2)
theorem pc0_bd : ∀ f k, 0 ≤ pc0 f k ∧ pc0 f k ≤ 2 * f
  | 0, k => by unfold pc0; omega
  | f + 1, k => by
    have := pc0_bd f (k / 2)
    unfold pc0
    split <;> omega
def pcS (k : Int) : Int := pc0 32 k.toNat - 2
theorem pcS_bd (k : Int) : -2 ≤ pcS k ∧ pcS k ≤ 62 := by
  have := pc0_bd 32 k.toNat
  unfold pcS
  omega
theorem andI_1 {k : Nat} (hk : k < 2147483648) : andI k 1 = ((k % 2 : Nat) : Int) := by
  have e : (Int32.ofInt (k : Int)).toBitVec = BitVec.ofNat 32 k := by rw [Int32.toBitVec_ofInt, BitVec.ofInt_natCast]
  show (Int32.ofInt (k : Int) &&& Int32.ofInt 1).toBitVec.toInt = _
  have h1 : (Int32.ofInt (k : Int) &&& Int32.ofInt 1).toBitVec.toNat = k % 2 := by
    rw [Int32.toBitVec_and, e, BitVec.toNat_and, BitVec.toNat_ofNat, Nat.mod_eq_of_lt (by omega)]
    exact Nat.and_one_is_mod k
  rw [BitVec.toInt_eq_toNat_of_lt (by rw [h1]; omega), h1]
theorem shrI_1 {k : Nat} (hk : k < 2147483648) : shrI k 1 = ((k / 2 : Nat) : Int) := by
  have e : (Int32.ofInt (k : Int)).toBitVec = BitVec.ofNat 32 k := by rw [Int32.toBitVec_ofInt, BitVec.ofInt_natCast]
  have hm : (BitVec.ofNat 32 k).msb = false := by
    rw [BitVec.msb_eq_false_iff_two_mul_lt, BitVec.toNat_ofNat, Nat.mod_eq_of_lt (by omega)]; omega
  show (Int32.ofInt (k : Int) >>> (Int32.ofInt 1 &&& 31)).toBitVec.toInt = _
  have h1 : (Int32.ofInt (k : Int) >>> (Int32.ofInt 1 &&& 31)).toBitVec.toNat = k / 2 := by
    rw [Int32.toBitVec_shiftRight, e, show (((Int32.ofInt 1 &&& 31)).toBitVec.smod 32) = BitVec.ofNat 32 1 from sh_amtI 1 (by omega), BitVec.sshiftRight_eq', BitVec.sshiftRight_eq_of_msb_false hm, BitVec.toNat_ushiftRight, BitVec.toNat_ofNat, BitVec.toNat_ofNat, Nat.mod_eq_of_lt (a := k) (by omega)]
    exact Nat.shiftRight_eq_div_pow k 1
  rw [BitVec.toInt_eq_toNat_of_lt (by rw [h1]; omega), h1]
theorem pc_loop : ∀ (n f k : Nat) (acc : Int), k < 2 ^ n → n ≤ 31 → n < f → -2 ≤ acc → acc + 2 * n ≤ 1000 → Checker_powerCost_5 f acc k = some (acc + pc0 (n + 1) k) := by
  intro n
  induction n with
  | zero =>
    intro f k acc hk hn hf a1 a2
    obtain ⟨f, rfl, -⟩ := fu_pos hf
    have : k = 0 := by simp at hk; omega
    subst this
    unfold Checker_powerCost_5
    refine ifF (by omega) ?_
    unfold pc0
    rw [if_pos rfl, Int.add_zero]
  | succ n ih =>
    intro f k acc hk hn hf a1 a2
    obtain ⟨f, rfl, hf⟩ := fu_pos hf
    have hk31 : k < 2147483648 := Nat.lt_of_lt_of_le hk (Nat.pow_le_pow_right (by omega) hn)
    unfold Checker_powerCost_5 pc0
    by_cases q : k = 0
    · subst q
      refine ifF (by omega) ?_
      rw [if_pos rfl, Int.add_zero]
    · refine ifT (by omega) ?_
      rw [andI_1 hk31, shrI_1 hk31, w32_e (z := 1 + ((k % 2 : Nat) : Int)) (by omega), w32_e (by omega), if_neg q, ih f (k / 2) _ (by rw [Nat.pow_succ] at hk; omega) (by omega) (by omega) (by omega) (by omega)]
      congr 1
      omega
theorem s_powerCost {k : Int} (hk : 0 ≤ k ∧ k < 2147483648) : Checker_powerCost k = some (pcS k) := by
  obtain ⟨k, rfl⟩ := Int.eq_ofNat_of_zero_le hk.1
  unfold Checker_powerCost pcS
  rw [pc_loop 31 FU k (-2) (by omega) (by omega) (fu_big (by omega)) (by omega) (by omega), Int.toNat_natCast]
  show some (-2 + pc0 32 k) = some (pc0 32 k - 2)
  congr 1
  omega
def coS (n : Int) : List RW → Int
  | [] => 0
  | r :: l => pcS (n - 1) + pcS ((n - 1) / r.1) + coS n l
theorem coS_bd (n : Int) : ∀ l : List RW, -4 * l.length ≤ coS n l ∧ coS n l ≤ 124 * l.length
  | [] => by unfold coS; simp
  | r :: l => by
    have h1 := coS_bd n l
    have h2 := pcS_bd (n - 1)
    have h3 := pcS_bd ((n - 1) / r.1)
    unfold coS
    rw [List.length_cons]
    omega
theorem co_loopC {h : AH} {a : Int} {l : LN} (L : LD h a l) (hn : okN l.1.1) (hl : ∀ r ∈ l.2.1, 1 ≤ r.1) : ∀ (n f i : Nat) (acc : Int), i + n = l.2.1.length → n < f → -1000 + 4 * n ≤ acc → acc + 124 * n ≤ 3000 → Checker_costOf_11 f a acc (l.1.1 - 1) i h = some (acc + coS l.1.1 (l.2.1.drop i)) := by
  have h9 := L.2.2.1.2.2.1
  intro n
  induction n with
  | zero =>
    intro f i acc hi hf a1 a2
    obtain ⟨f, rfl, -⟩ := fu_pos hf
    unfold Checker_costOf_11
    refine gB L.1.t ?_
    rw [L.1.p0]
    refine gB L.1.d.1 ?_
    rw [L.2.2.1.2.1]
    refine ifF (by omega) ?_
    rw [dr_e (by omega)]
    unfold coS
    rw [Int.add_zero]
  | succ n ih =>
    intro f i acc hi hf a1 a2
    obtain ⟨f, rfl, hf⟩ := fu_pos hf
    have hi' : i < l.2.1.length := by omega
    have hr := hl _ (gt_mem hi')
    have n2 := hn.2
    have n1 := hn.1
    have db := dv_bd (n := l.1.1 - 1) (q := (gt l.2.1 i).1) (by omega) hr
    have h2 := pcS_bd (l.1.1 - 1)
    have h3 := pcS_bd ((l.1.1 - 1) / (gt l.2.1 i).1)
    unfold Checker_costOf_11
    refine gB L.1.t ?_
    rw [L.1.p0]
    refine gB L.1.d.1 ?_
    rw [L.2.2.1.2.1]
    refine ifT (by omega) ?_
    refine gB L.1.t ?_
    refine gB L.1.d.1 ?_
    refine cB (s_cell0 L.2.2.1 hi') ?_
    refine ifT (by omega) ?_
    refine cB (s_powerCost (by omega)) ?_
    rw [td_e (by omega), w32_e (z := (l.1.1 - 1) / (gt l.2.1 i).1) (by omega)]
    refine gB (by omega) ?_
    refine cB (s_powerCost (by omega)) ?_
    rw [w32_e (z := pcS (l.1.1 - 1) + pcS ((l.1.1 - 1) / (gt l.2.1 i).1)) (by omega), w32_e (by omega), w32_e (by omega)]
    refine (ih f (i + 1) _ (by omega) (by omega) (by omega) (by omega)).trans ?_
    rw [gt_dr hi']
    congr 1
    show _ = acc + (pcS (l.1.1 - 1) + pcS ((l.1.1 - 1) / (gt l.2.1 i).1) + coS l.1.1 (l.2.1.drop (i + 1)))
    omega
theorem s_costOf {h : AH} {a : Int} {l : LN} (L : LD h a l) (hn : okN l.1.1) (hl : ∀ r ∈ l.2.1, 1 ≤ r.1) : Checker_costOf a h = some (coS l.1.1 l.2.1) := by
  have h9 := L.2.2.1.2.2.1
  have n2 := hn.2
  have n1 := hn.1
  unfold Checker_costOf
  refine gB L.1.t ?_
  rw [L.2.1.1, w32_e (by omega)]
  have := co_loopC L hn hl l.2.1.length FU 0 0 (by omega) (fu_big (by omega)) (by omega) (by omega)
  refine this.trans ?_
  rw [List.drop_zero, Int.zero_add]
/-- by how many bases from b on, k of them -/
def gb0 (n q : Int) : Nat → Int → Int
  | 0, _ => 0
  | k + 1, b => (if rfS n q b = 0 then 1 else 0) + gb0 n q k (b + 1)
theorem gb_loop {h : AH} {a q : Int} {l : LN} (L : LD h a l) (hn : okN l.1.1) (hq : 1 ≤ q) : ∀ (k f : Nat) (b acc : Int), b + k = 1000 → 2 ≤ b → k < f → 0 ≤ acc → acc + k ≤ 2000 → Checker_goodBases_15 f a acc q b h = some (acc + gb0 l.1.1 q k b) := by
  intro k
  induction k with
  | zero =>
    intro f b acc hb h2 hf a1 a2
    obtain ⟨f, rfl, -⟩ := fu_pos hf
    unfold Checker_goodBases_15
    refine ifT (by omega) ?_
    unfold gb0
    rw [Int.add_zero]
  | succ k ih =>
    intro f b acc hb h2 hf a1 a2
    obtain ⟨f, rfl, hf⟩ := fu_pos hf
    unfold Checker_goodBases_15 gb0
    refine ifF (by omega) ?_
    refine gB L.1.t ?_
    rw [L.2.1.1]
    refine cB (s_rowFault hn hq (by omega)) ?_
    rw [w32_e (z := b + 1) (by omega)]
    by_cases g : rfS l.1.1 q b = 0
    · refine ifT g ?_
      rw [if_pos g, w32_e (by omega), ih f (b + 1) _ (by omega) (by omega) (by omega) (by omega) (by omega), Int.add_assoc]
    · refine ifF g ?_
      rw [if_neg g, ih f (b + 1) _ (by omega) (by omega) (by omega) (by omega) (by omega), Int.zero_add]
theorem s_goodBases {h : AH} {a : Int} {l : LN} (L : LD h a l) (hn : okN l.1.1) (hl : ∀ r ∈ l.2.1, 1 ≤ r.1) {i : Nat} (hi : i < l.2.1.length) : Checker_goodBases a i h = some (gb0 l.1.1 (gt l.2.1 i).1 998 2) := by
  unfold Checker_goodBases
  refine gB L.1.t ?_
  rw [L.1.p0]
  refine gB L.1.d.1 ?_
  refine cB (s_cell0 L.2.2.1 hi) ?_
  rw [gb_loop L hn (hl _ (gt_mem hi)) 998 FU 2 0 (by omega) (by omega) (fu_big (by omega)) (by omega) (by omega), Int.zero_add]
/-! ### fault 1, repeats -/
def f1S (l : LN) : Bool := if l.1.2.1 = 0 then !(decide (l.1.1 < 100) && decide (prS l.1.1 = 1)) else decide (l.1.1 % 2 = 0)
theorem s_hasFault1 (hM : MRok) {h : AH} {a : Int} {l : LN} (L : LD h a l) (hn : okN l.1.1) : Checker_hasFault1 a h = some (b2i (f1S l)) := by
  have n2 := hn.2
  have n1 := hn.1
  unfold Checker_hasFault1 f1S
  refine gB L.1.t ?_
  rw [L.2.1.2.1]
  by_cases s0 : l.1.2.1 = 0
  · refine ifT s0 ?_
    refine gB L.1.t ?_
    rw [L.2.1.1, if_pos s0]
    by_cases q : l.1.1 < 100
    · refine ifT q ?_
      refine gB L.1.t ?_
      refine cB (s_isPrime hM (by omega)) ?_
      rw [decide_eq_true q]
      rcases prS_01 l.1.1 with e | e <;> rw [e] <;> rfl
    · refine ifF q ?_
      rw [decide_eq_false q]; rfl
  · refine ifF s0 ?_
    refine gB L.1.t ?_
    rw [L.2.1.1, if_neg s0, tm_e (by omega)]
    refine gB (by omega) ?_
    by_cases q : l.1.1 % 2 = 0
    · refine ifT q ?_
      rw [decide_eq_true q]; rfl
    · refine ifF q ?_
      rw [decide_eq_false q]; rfl
noncomputable def pB (p : Prop) : Int := @ite _ p (Classical.propDecidable p) 1 0
theorem pB_t {p : Prop} (h : p) : pB p = 1 := by unfold pB; rw [if_pos h]
theorem pB_f {p : Prop} (h : ¬ p) : pB p = 0 := by unfold pB; rw [if_neg h]
theorem pB_0 {p : Prop} : pB p = 0 ↔ ¬ p := ⟨fun h z => by rw [pB_t z] at h; omega, pB_f⟩
theorem pB_1 {p : Prop} : pB p = 1 ↔ p := ⟨fun h => Classical.byContradiction fun z => by rw [pB_f z] at h; omega, pB_t⟩
theorem pB_c {p q : Prop} (h : p ↔ q) : pB p = pB q := by rw [propext h]
def rpP (l : List RW) : Prop := ∃ i k, k < i ∧ i < l.length ∧ (gt l i).1 = (gt l k).1
theorem rp_in {h : AH} {s : Int} {l : List RW} (S : SD h s l) {k2 : Int → Int → AH → Option Int} {i : Nat} (hi : i < l.length) : ∀ (n f k : Nat), k + n = i → n < f → ((∃ j, k ≤ j ∧ j < i ∧ (gt l i).1 = (gt l j).1) ∧ Side_repeats_12 k2 f s i k h = some 1) ∨ ((¬ ∃ j, k ≤ j ∧ j < i ∧ (gt l i).1 = (gt l j).1) ∧ Side_repeats_12 k2 f s i k h = k2 s (w32 ((i : Int) + 1)) h) := by
  have h9 := S.2.2.1
  intro n
  induction n with
  | zero =>
    intro f k hk hf
    obtain ⟨f, rfl, -⟩ := fu_pos hf
    refine Or.inr ⟨fun ⟨j, a, b, _⟩ => by omega, ?_⟩
    unfold Side_repeats_12
    exact ifF (by omega) rfl
  | succ n ih =>
    intro f k hk hf
    obtain ⟨f, rfl, hf⟩ := fu_pos hf
    by_cases q : (gt l i).1 = (gt l k).1
    · refine Or.inl ⟨⟨k, Nat.le_refl _, by omega, q⟩, ?_⟩
      unfold Side_repeats_12
      refine ifT (by omega) ?_
      refine gB S.1.1 ?_
      refine cB (s_cell0 S hi) ?_
      refine gB S.1.1 ?_
      refine cB (s_cell0 S (by omega)) ?_
      exact ifT q rfl
    · have e : Side_repeats_12 k2 (f + 1) s i k h = Side_repeats_12 k2 f s i ((k + 1 : Nat) : Int) h := by
        conv => lhs; unfold Side_repeats_12
        refine ifT (by omega) ?_
        refine gB S.1.1 ?_
        refine cB (s_cell0 S hi) ?_
        refine gB S.1.1 ?_
        refine cB (s_cell0 S (by omega)) ?_
        refine ifF q ?_
        rw [w32_e (by omega)]; rfl
      rw [e]
      rcases ih f (k + 1) (by omega) (by omega) with ⟨⟨j, a, b, c⟩, z⟩ | ⟨a, z⟩
      · exact Or.inl ⟨⟨j, by omega, b, c⟩, z⟩
      · refine Or.inr ⟨fun ⟨j, x, y, w⟩ => ?_, z⟩
        rcases Nat.lt_or_ge k j with t | t
        · exact a ⟨j, t, y, w⟩
        · have : j = k := by omega
          subst this
          exact q w
theorem rp_out {h : AH} {s : Int} {l : List RW} (S : SD h s l) : ∀ (n f i : Nat), i + n = l.length → n < f → ((∃ j k, i ≤ j ∧ k < j ∧ j < l.length ∧ (gt l j).1 = (gt l k).1) ∧ Side_repeats_2 f s i h = some 1) ∨ ((¬ ∃ j k, i ≤ j ∧ k < j ∧ j < l.length ∧ (gt l j).1 = (gt l k).1) ∧ Side_repeats_2 f s i h = some 0) := by
  have h9 := S.2.2.1
  intro n
  induction n with
  | zero =>
    intro f i hi hf
    obtain ⟨f, rfl, -⟩ := fu_pos hf
    refine Or.inr ⟨fun ⟨j, k, a, b, c, _⟩ => by omega, ?_⟩
    unfold Side_repeats_2
    refine gB S.1.1 ?_
    rw [S.2.1]
    exact ifF (by omega) rfl
  | succ n ih =>
    intro f i hi hf
    obtain ⟨f, rfl, hf⟩ := fu_pos hf
    have e : Side_repeats_2 (f + 1) s i h = Side_repeats_12 (fun a0 a1 h0 => Side_repeats_2 f a0 a1 h0) FU s i 0 h := by
      conv => lhs; unfold Side_repeats_2
      refine gB S.1.1 ?_
      rw [S.2.1]
      exact ifT (by omega) rfl
    rw [e]
    rcases rp_in S (k2 := fun a0 a1 h0 => Side_repeats_2 f a0 a1 h0) (i := i) (by omega) i FU 0 (by omega) (fu_big (by omega)) with ⟨⟨j, a, b, c⟩, z⟩ | ⟨a, z⟩
    · exact Or.inl ⟨⟨i, j, Nat.le_refl _, b, by omega, c⟩, z⟩
    · rw [show ((0 : Nat) : Int) = 0 from rfl] at z
      rw [z, w32_e (by omega)]
      rcases ih f (i + 1) (by omega) (by omega) with ⟨⟨j, k, x, y, w, v⟩, u⟩ | ⟨x, u⟩
      · exact Or.inl ⟨⟨j, k, by omega, y, w, v⟩, u⟩
      · refine Or.inr ⟨fun ⟨j, k, y, w, v, t⟩ => ?_, u⟩
        rcases Nat.lt_or_ge i j with o | o
        · exact x ⟨j, k, o, w, v, t⟩
        · have : j = i := by omega
          subst this
          exact a ⟨k, Nat.zero_le _, w, t⟩
theorem s_repeats {h : AH} {s : Int} {l : List RW} (S : SD h s l) : Side_repeats s h = some (pB (rpP l)) := by
  have h9 := S.2.2.1
  unfold Side_repeats
  rcases rp_out S l.length FU 0 (by omega) (fu_big (by omega)) with ⟨⟨j, k, a, b, c, d⟩, z⟩ | ⟨a, z⟩
  · rw [pB_t ⟨j, k, b, c, d⟩]; exact z
  · rw [pB_f fun ⟨j, k, b, c, d⟩ => a ⟨j, k, Nat.zero_le _, b, c, d⟩]; exact z
