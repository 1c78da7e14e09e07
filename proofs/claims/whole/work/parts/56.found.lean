/-! a line that is found -/
def tuN (n s : Int) (D U : List FE) : Nat → Nat → Nat → Bool → Nat × Nat
  | 0, di, ui, _ => (di, ui)
  | k + 1, di, ui, up => if pfS n s (prE (D.drop di)) (prE (U.drop ui)) = 0 then (di, ui) else if 0 < ui ∧ (up = true ∨ di = 0) then tuN n s D U k di (ui - 1) false else if 0 < di then tuN n s D U k (di - 1) ui true else (di, ui)
def rvD (b : Int) (l : List FE) : List RW := l.reverse.map (rD b)
/-- the rows of a line for n, without bases (b in place of them) -/
def lyS (n s b : Int) : List RW × List RW := if s = 1 then ((facS (n - 1)).map (rD b), []) else if s = 2 then (rvD b ((facS (n - 1)).drop (tuN n 2 (facS (n - 1)) [] 18 (facS (n - 1)).length 0 false).1), []) else if s = 3 then ([], (facS (n + 1)).map (rD 0)) else (rvD b ((facS (n - 1)).drop (tuN n 4 (facS (n - 1)) (facS (n + 1)) 18 (facS (n - 1)).length (facS (n + 1)).length false).1), rvD 0 ((facS (n + 1)).drop (tuN n 4 (facS (n - 1)) (facS (n + 1)) 18 (facS (n - 1)).length (facS (n + 1)).length false).2))
def fstB (c : Int → Bool) : Nat → Int → Option Int
  | 0, _ => none
  | k + 1, a => if c a then some a else fstB c k (a + 1)
theorem fstB_s {c : Int → Bool} : ∀ {k : Nat} {a v : Int}, fstB c k a = some v → a ≤ v ∧ v < a + k ∧ c v = true ∧ ∀ x, a ≤ x → x < v → c x = false
  | 0, a, v, h => by cases h
  | k + 1, a, v, h => by
    unfold fstB at h
    by_cases q : c a = true
    · rw [if_pos q] at h
      cases h
      exact ⟨Int.le_refl _, by omega, q, fun x h1 h2 => by omega⟩
    · rw [if_neg q] at h
      obtain ⟨a1, a2, a3, a4⟩ := fstB_s h
      refine ⟨by omega, by omega, a3, fun x h1 h2 => ?_⟩
      by_cases e : x = a
      · subst e; cases z : c x
        · rfl
        · exact absurd z q
      · exact a4 x (by omega) h2
def fbS (n : Int) (l : List RW) : Option Int := fstB (fun a => decide (dfS n (l.map fun r => (r.1, r.2.1, a)) = 0)) 998 2
def lbS (n q : Int) : Option Int := fstB (fun a => decide (rfS n q a = 0)) 998 2
def bsS (n : Int) : List RW → Option (List RW)
  | [] => some []
  | r :: l => match lbS n r.1 with
    | none => none
    | some b => match bsS n l with
      | none => none
      | some l' => some ((r.1, r.2.1, b) :: l')
def pqS (n : Int) (U : List RW) : Nat → Int → Option (Int × Int)
  | 0, _ => none
  | k + 1, p => match fstB (fun q => decide (upS n p q U = 0)) 99 1 with
    | some q => some (p, q)
    | none => pqS n U k (p + 1)
/-- bases, P, Q -/
def seS (n s : Int) (D U : List RW) : Option LN :=
  if s = 1 then (match fbS n D with
    | some a => some ((n, s, 0, 0), D.map fun r => (r.1, r.2.1, a), U)
    | none => none)
  else if s = 2 then (match bsS n D with
    | some D' => some ((n, s, 0, 0), D', U)
    | none => none)
  else if s = 3 then (match pqS n U 99 1 with
    | some pq => some ((n, s, pq.1, pq.2), D, U)
    | none => none)
  else (match bsS n D with
    | some D' => (match pqS n U 99 1 with
      | some pq => some ((n, s, pq.1, pq.2), D', U)
      | none => none)
    | none => none)
def fdS (n s : Int) : Option LN := if prS n = 1 then (if s = 0 then (if n < 100 then some ((n, 0, 0, 0), [], []) else none) else if n = 2 then none else seS n s (lyS n s 0).1 (lyS n s 0).2) else none
/-! ### products of rows -/
theorem prF_a : ∀ (l k : List RW), prF (l ++ k) = prF l * prF k
  | [], k => (Int.one_mul _).symm
  | r :: l, k => by
    show r.1 ^ r.2.1.toNat * prF (l ++ k) = r.1 ^ r.2.1.toNat * prF l * prF k
    rw [prF_a l k, Int.mul_assoc]
theorem prF_m (b : Int) : ∀ l : List FE, prF (l.map (rD b)) = prE l
  | [] => rfl
  | x :: l => by
    show x.1 ^ x.2.toNat * prF (l.map (rD b)) = x.1 ^ x.2.toNat * prE l
    rw [prF_m b l]
theorem prF_v (b : Int) : ∀ l : List FE, prF (rvD b l) = prE l
  | [] => rfl
  | x :: l => by
    unfold rvD
    rw [List.reverse_cons, List.map_append, prF_a]
    have := prF_v b l
    unfold rvD at this
    rw [this]
    show prE l * (x.1 ^ x.2.toNat * 1) = x.1 ^ x.2.toNat * prE l
    rw [Int.mul_one, Int.mul_comm]
theorem prE_a : ∀ (l k : List FE), prE (l ++ k) = prE l * prE k
  | [], k => (Int.one_mul _).symm
  | r :: l, k => by
    show r.1 ^ r.2.toNat * prE (l ++ k) = r.1 ^ r.2.toNat * prE l * prE k
    rw [prE_a l k, Int.mul_assoc]
theorem prE_d (l : List FE) (i : Nat) : prE (l.drop i) ∣ prE l := ⟨prE (l.take i), by rw [Int.mul_comm, ← prE_a, List.take_append_drop]⟩
theorem rvD_s {b : Int} {l : List FE} {i : Nat} (h : 0 < i) (h2 : i ≤ l.length) : rvD b (l.drop (i - 1)) = rvD b (l.drop i) ++ [rD b (ge l (i - 1))] := by
  have e := ge_dr (l := l) (i := i - 1) (by omega)
  rw [show i - 1 + 1 = i by omega] at e
  unfold rvD
  rw [e, List.reverse_cons, List.map_append]
  rfl
theorem rvD_l {b : Int} {l : List FE} {i : Nat} : (rvD b (l.drop i)).length = l.length - i := by unfold rvD; rw [List.length_map, List.length_reverse, List.length_drop]
theorem rvD_m {b : Int} {l : List FE} {r : RW} (h : r ∈ rvD b l) : ∃ x ∈ l, r = rD b x := by
  unfold rvD at h
  obtain ⟨x, hx, rfl⟩ := List.mem_map.mp h
  exact ⟨x, List.mem_reverse.mp hx, rfl⟩
/-- what is known of the numbers beside an odd one -/
def nbOK (n : Int) : Prop := 3 ≤ n ∧ n ≤ 1000000000 ∧ n % 2 = 1
theorem nb_lo {n : Int} (h : nbOK n) : fcOK 2 (n - 1) (facS (n - 1)) ∧ (facS (n - 1)).length ≤ 9 := ⟨facS_ok (by have := h.1; omega) (by have := h.2.1; omega), facS_len (by have := h.1; omega) (by have := h.2.1; omega)⟩
theorem nb_hi {n : Int} (h : nbOK n) : fcOK 2 (n + 1) (facS (n + 1)) ∧ (facS (n + 1)).length ≤ 9 := ⟨facS_ok (by have := h.1; omega) (by have := h.2.1; omega), facS_len (by have := h.1; omega) (by have := h.2.1; omega)⟩
theorem half_le {m p : Int} (hm : 1 ≤ m) (he : m % 2 = 0) (hp : isP p) (hd : p ∣ m) : 2 * p ≤ m ∨ (p = 2 ∧ m = 2) := by
  obtain ⟨c, rfl⟩ := hd
  have p2 := hp.1
  rcases Int.lt_or_le c 1 with q | q
  · have : p * c ≤ p * 0 := Int.mul_le_mul_of_nonneg_left (by omega) (by omega)
    omega
  · rcases Int.lt_or_le c 2 with q2 | q2
    · have c1 : c = 1 := by omega
      subst c1
      rw [Int.mul_one] at he ⊢
      rcases Int.lt_or_le p 4 with z | z
      · exact Or.inr ⟨by omega, by omega⟩
      · exact absurd he (hp.2 2 (by omega) (by omega))
    · have : p * 2 ≤ p * c := Int.mul_le_mul_of_nonneg_left q2 (by omega)
      exact Or.inl (by omega)
/-- a prime of n less 1, of n and 1 -/
theorem nb_lo1 {n : Int} (h : nbOK n) {x : FE} (hx : x ∈ facS (n - 1)) : isP x.1 ∧ 1 ≤ x.2 ∧ x.2 ≤ 30 ∧ x.1 ∣ n - 1 ∧ 2 * x.1 ≤ n + 1 := by
  obtain ⟨a, -, c, d, e⟩ := (nb_lo h).1.1 x hx
  obtain ⟨h1, h2, h3⟩ := h
  refine ⟨a, d, e, c, ?_⟩
  rcases half_le (by omega) (by omega) a c with q | q <;> omega
theorem nb_hi1 {n : Int} (h : nbOK n) {x : FE} (hx : x ∈ facS (n + 1)) : isP x.1 ∧ 1 ≤ x.2 ∧ x.2 ≤ 30 ∧ x.1 ∣ n + 1 ∧ 2 * x.1 ≤ n + 1 := by
  obtain ⟨a, -, c, d, e⟩ := (nb_hi h).1.1 x hx
  obtain ⟨h1, h2, h3⟩ := h
  refine ⟨a, d, e, c, ?_⟩
  rcases half_le (by omega) (by omega) a c with q | q <;> omega
theorem rD_ok {n : Int} (h : nbOK n) {x : FE} {b : Int} (hx : isP x.1 ∧ 1 ≤ x.2 ∧ x.2 ≤ 30 ∧ 2 * x.1 ≤ n + 1) : okR (rD b x) := ⟨hx.1.1, by have := h.2.1; show x.1 ≤ 1000000000; have := hx.2.2.2; omega, hx.2.1, hx.2.2.1⟩
theorem gc_2 {n : Int} (h : nbOK n) : gcS (n - 1) (n + 1) ≤ 2 := by
  obtain ⟨h1, h2, h3⟩ := h
  unfold gcS
  have d1 := Nat.gcd_dvd_left (n - 1).toNat (n + 1).toNat
  have d2 := Nat.gcd_dvd_right (n - 1).toNat (n + 1).toNat
  have d3 := Nat.dvd_sub d2 d1
  have e : (n + 1).toNat - (n - 1).toNat = 2 := by omega
  rw [e] at d3
  have := Nat.le_of_dvd (by omega) d3
  omega
/-- all of both sides are enough -/
theorem en_all {n : Int} (h : nbOK n) : enS n (n - 1) (n + 1) = true := by
  have g2 := gc_2 h
  obtain ⟨h1, h2, h3⟩ := h
  have g1 := gc_pos (a := n - 1) (b := n + 1) (by omega)
  have gd := gc_dv (a := n - 1) (b := n + 1) (by omega)
  unfold enS
  generalize gcS (n - 1) (n + 1) = g at *
  have e1 : n - 1 ≤ 2 * ((n - 1) / g) := by
    have : (n - 1) / g * g ≤ (n - 1) / g * 2 := Int.mul_le_mul_of_nonneg_left g2 (Int.ediv_nonneg (by omega) (by omega))
    omega
  generalize (n - 1) / g = a at *
  have e2 : (n - 1) * (n + 1) ≤ 2 * a * (n + 1) := Int.mul_le_mul_of_nonneg_right e1 (by omega)
  have e3 : 2 * (n + 1) ≤ (n - 1) * (n + 1) := Int.mul_le_mul_of_nonneg_right (by omega) (by omega)
  have e4 : 2 * a * (n + 1) = 2 * (a * (n + 1)) := Int.mul_assoc _ _ _
  have m1 : n < a * (n + 1) := by omega
  generalize a * (n + 1) = m at m1
  have m2 : m * 1 ≤ m * m := Int.mul_le_mul_of_nonneg_left (by omega) (by omega)
  rw [Int.emod_eq_of_lt (by omega) m1, decide_eq_true (show n < m * m by omega), decide_eq_false (show ¬ n < n by omega), Bool.and_false, Bool.false_and]
  rfl
theorem pf_all {n s : Int} (h : nbOK n) (hs : s = 2 ∨ s = 4) {g : Int} (hg : s = 4 → g = n + 1) : pfS n s (n - 1) g = 0 := by
  obtain ⟨h1, h2, h3⟩ := id h
  unfold pfS
  rcases hs with rfl | rfl
  · rw [if_neg (by decide), if_pos rfl, Int.emod_self, if_pos rfl]
    refine if_pos ?_
    rcases Int.lt_or_le n 4 with q | q
    · have : n = 3 := by omega
      subst this; decide
    · have : 3 * (n - 1) ≤ (n - 1) * (n - 1) := Int.mul_le_mul_of_nonneg_right (by omega) (by omega)
      omega
  · rw [hg rfl, if_neg (by decide), if_neg (by decide), if_neg (by decide), if_pos rfl, Int.emod_self, Int.emod_self, if_pos ⟨rfl, rfl⟩, en_all h]
    rfl
/-- rows taken from what is beside n divide it -/
theorem pf_n3 {n s f g : Int} (hs : s = 2 ∨ s = 4) (hf : f ∣ n - 1) (hg : s = 4 → g ∣ n + 1) : pfS n s f g ≠ 3 := by
  have e1 : (n - 1) % f = 0 := Int.emod_eq_zero_of_dvd hf
  unfold pfS
  rcases hs with rfl | rfl
  · rw [if_neg (by decide), if_pos rfl, if_pos e1]
    split <;> decide
  · rw [if_neg (by decide), if_neg (by decide), if_neg (by decide), if_pos rfl, if_pos ⟨e1, Int.emod_eq_zero_of_dvd (hg rfl)⟩]
    split <;> decide
/-! ### the reference lays rows -/
def YK (b j : Int) : Prop := MK 115 b j ∨ XK b j
theorem YK.mut {b j : Int} (h : YK b j) : Mut b j := h.elim MK.mut XK.mut
theorem lr_part {n : Int} (hn : nbOK n) {hd : Int × Int × Int × Int} (e1 : hd.1 = n) (e2 : hd.2.1 = 2) : ∀ (k f di : Nat) (up : Bool) (h : AH), di ≤ k → k < f → di ≤ (facS (n - 1)).length → Sh h → FCM h (facS (n - 1)) → LM h 115 (hd, rvD 2 ((facS (n - 1)).drop di), []) → ∃ h', R_laysRows_118 f 27 115 ((di : Int) - 1) h = some h' ∧ Fr YK h h' ∧ LM h' 115 (hd, rvD 2 ((facS (n - 1)).drop (tuN n 2 (facS (n - 1)) [] k di 0 up).1), []) := by
  have lo := nb_lo hn
  intro k
  induction k with
  | zero =>
    intro f di up h hk hf hl H D L
    obtain ⟨f, rfl, -⟩ := fu_pos hf
    have : di = 0 := by omega
    subst this
    refine ⟨h, ?_, Fr.rf, L⟩
    unfold R_laysRows_118
    exact ifT (by omega) rfl
  | succ k ih =>
    intro f di up h hk hf hl H D L
    obtain ⟨f, rfl, hf⟩ := fu_pos hf
    have dvd : prE ((facS (n - 1)).drop di) ∣ n - 1 := by
      have := prE_d (facS (n - 1)) di
      rw [lo.1.2.2] at this
      exact this
    by_cases z : di = 0
    · subst z
      have e : (tuN n 2 (facS (n - 1)) [] (k + 1) 0 0 up).1 = 0 := by
        unfold tuN
        split
        · rfl
        · rw [if_neg (by omega), if_neg (by omega)]
      rw [e]
      refine ⟨h, ?_, Fr.rf, L⟩
      unfold R_laysRows_118
      exact ifT (by omega) rfl
    · have okd : ∀ r ∈ rvD 2 ((facS (n - 1)).drop di), okR r := fun r hr => by
        obtain ⟨x, hx, rfl⟩ := rvD_m hr
        have := nb_lo1 hn (List.mem_of_mem_drop hx)
        exact rD_ok hn ⟨this.1, this.2.1, this.2.2.1, this.2.2.2.2⟩
      have en := s_RisEnough H (by omega) L (show okN hd.1 by rw [e1]; exact ⟨by have := hn.1; omega, hn.2.1⟩) okd (fun r hr => absurd hr List.not_mem_nil) (show 1 ≤ hd.2.1 ∧ hd.2.1 ≤ 4 by omega) (by
        show pfS hd.1 hd.2.1 (prF (rvD 2 ((facS (n - 1)).drop di))) (prF []) ≠ 3
        rw [e1, e2, prF_v]
        exact pf_n3 (Or.inl rfl) dvd (fun q => by omega))
      have en2 : R_isEnough 27 115 h = some (b2i (decide (pfS n 2 (prE ((facS (n - 1)).drop di)) (prE (([] : List FE).drop 0)) = 0))) := by
        refine en.trans ?_
        show some (b2i (decide (pfS hd.1 hd.2.1 (prF (rvD 2 ((facS (n - 1)).drop di))) 1 = 0))) = _
        rw [e1, e2, prF_v]
        rfl
      by_cases p0 : pfS n 2 (prE ((facS (n - 1)).drop di)) (prE (([] : List FE).drop 0)) = 0
      · refine ⟨h, ?_, Fr.rf, ?_⟩
        · unfold R_laysRows_118
          refine ifF (by omega) ?_
          refine gB H.t27 ?_
          refine cB en2 ?_
          rw [decide_eq_true p0]
          exact ifF (by decide) rfl
        · unfold tuN
          rw [if_pos p0]
          exact L
      · have hl9 := lo.2
        obtain ⟨h1, e3, F1, L1⟩ := s_rowsD H (by omega) L (by show (rvD 2 ((facS (n - 1)).drop di)).length < 9; rw [rvD_l]; omega) D (i := di - 1) (by omega) (b := 2)
        have L1' : LM h1 115 (hd, rvD 2 ((facS (n - 1)).drop di) ++ [rD 2 (ge (facS (n - 1)) (di - 1))], []) := L1
        rw [← rvD_s (by omega) hl] at L1'
        obtain ⟨h2, e4, F2, L2⟩ := ih f (di - 1) true h1 (by omega) (by omega) (by omega) (H.fr F1 fun b j => MK.mut) (D.fr F1 (by unfold MK; omega) (fun j => by unfold MK; omega) (fun j => by unfold MK; omega)) L1'
        refine ⟨h2, ?_, (F1.mo fun b j z => Or.inl z).tr F2, ?_⟩
        · unfold R_laysRows_118
          refine ifF (by omega) ?_
          refine gB H.t27 ?_
          refine cB en2 ?_
          rw [decide_eq_false p0]
          refine ifT rfl ?_
          refine gB H.t27 ?_
          rw [show (di : Int) - 1 = ((di - 1 : Nat) : Int) by omega]
          refine cB e3 ?_
          rw [w32_e (by omega), show ((di - 1 : Nat) : Int) + -1 = ((di - 1 : Nat) : Int) - 1 by omega]
          exact e4
        · unfold tuN
          rw [if_neg p0, if_neg (by omega), if_pos (by omega)]
          exact L2
theorem lr_all {s : Int} {hd : Int × Int × Int × Int} {fs : List FE} : ∀ (m f i : Nat) (h : AH), i + m = fs.length → m < f → Sh h → FCM h fs → (s = 3 → LM h 115 (hd, [], (fs.take i).map (rD 0))) → (s ≠ 3 → LM h 115 (hd, (fs.take i).map (rD 2), [])) → ∃ h', R_laysRows_61 f 27 115 s i h = some h' ∧ Fr YK h h' ∧ (s = 3 → LM h' 115 (hd, [], fs.map (rD 0))) ∧ (s ≠ 3 → LM h' 115 (hd, fs.map (rD 2), [])) := by
  have tk : ∀ (i : Nat) (b : Int), i < fs.length → (fs.take i).map (rD b) ++ [rD b (ge fs i)] = (fs.take (i + 1)).map (rD b) := by
    intro i b hi
    have : fs.take (i + 1) = fs.take i ++ [ge fs i] := by
      rw [List.take_succ]
      unfold ge
      rw [List.getD_eq_getElem?_getD, List.getElem?_eq_getElem hi]
      rfl
    rw [this, List.map_append]
    rfl
  intro m
  induction m with
  | zero =>
    intro f i h hi hf H D Lu Ld
    obtain ⟨f, rfl, -⟩ := fu_pos hf
    have e : fs.take i = fs := List.take_of_length_le (by omega)
    rw [e] at Lu Ld
    refine ⟨h, ?_, Fr.rf, Lu, Ld⟩
    unfold R_laysRows_61
    refine gB H.t27 ?_
    rw [D.1]
    exact ifF (by omega) rfl
  | succ m ih =>
    intro f i h hi hf H D Lu Ld
    obtain ⟨f, rfl, hf⟩ := fu_pos hf
    have h9 := D.2.1
    by_cases s3 : s = 3
    · obtain ⟨h1, e1, F1, L1⟩ := s_rowsU H (by omega) (Lu s3) (by show ((fs.take i).map (rD 0)).length < 9; rw [List.length_map, List.length_take]; omega) D (i := i) (by omega) (b := 2)
      have L1' : LM h1 115 (hd, [], (fs.take i).map (rD 0) ++ [rD 0 (ge fs i)]) := L1
      rw [tk i 0 (by omega)] at L1'
      obtain ⟨h2, e2, F2, A2, B2⟩ := ih f (i + 1) h1 (by omega) (by omega) (H.fr F1 fun b j => MK.mut) (D.fr F1 (by unfold MK; omega) (fun j => by unfold MK; omega) (fun j => by unfold MK; omega)) (fun _ => L1') (fun z => absurd s3 z)
      refine ⟨h2, ?_, (F1.mo fun b j z => Or.inl z).tr F2, A2, B2⟩
      unfold R_laysRows_61
      refine gB H.t27 ?_
      rw [D.1]
      refine ifT (by omega) ?_
      refine ifT s3 ?_
      unfold R_laysRows_82
      refine gB H.t27 ?_
      refine cB e1 ?_
      rw [w32_e (by omega)]
      exact e2
    · obtain ⟨h1, e1, F1, L1⟩ := s_rowsD H (by omega) (Ld s3) (by show ((fs.take i).map (rD 2)).length < 9; rw [List.length_map, List.length_take]; omega) D (i := i) (by omega) (b := 2)
      have L1' : LM h1 115 (hd, (fs.take i).map (rD 2) ++ [rD 2 (ge fs i)], []) := L1
      rw [tk i 2 (by omega)] at L1'
      obtain ⟨h2, e2, F2, A2, B2⟩ := ih f (i + 1) h1 (by omega) (by omega) (H.fr F1 fun b j => MK.mut) (D.fr F1 (by unfold MK; omega) (fun j => by unfold MK; omega) (fun j => by unfold MK; omega)) (fun z => absurd z s3) (fun _ => L1')
      refine ⟨h2, ?_, (F1.mo fun b j z => Or.inl z).tr F2, A2, B2⟩
      unfold R_laysRows_61
      refine gB H.t27 ?_
      rw [D.1]
      refine ifT (by omega) ?_
      refine ifF s3 ?_
      unfold R_laysRows_82
      refine gB H.t27 ?_
      refine cB e1 ?_
      rw [w32_e (by omega)]
      exact e2
theorem lr_turns {n : Int} (hn : nbOK n) {hd : Int × Int × Int × Int} (e1 : hd.1 = n) (e2 : hd.2.1 = 4) : ∀ (k f di ui : Nat) (up : Bool) (h : AH), di + ui ≤ k → k < f → di ≤ (facS (n - 1)).length → ui ≤ (facS (n + 1)).length → Sh h → LM h 115 (hd, rvD 2 ((facS (n - 1)).drop di), rvD 0 ((facS (n + 1)).drop ui)) → ∃ h', R_turns_34 f 27 115 n ((di : Int) - 1) ((ui : Int) - 1) (b2i up) h = some h' ∧ Fr YK h h' ∧ LM h' 115 (hd, rvD 2 ((facS (n - 1)).drop (tuN n 4 (facS (n - 1)) (facS (n + 1)) k di ui up).1), rvD 0 ((facS (n + 1)).drop (tuN n 4 (facS (n - 1)) (facS (n + 1)) k di ui up).2)) := by
  have lo := nb_lo hn
  have hi := nb_hi hn
  obtain ⟨n1, n2, n3⟩ := id hn
  intro k
  have step : ∀ (f di ui : Nat) (up : Bool) (h : AH), di ≤ (facS (n - 1)).length → ui ≤ (facS (n + 1)).length → Sh h → LM h 115 (hd, rvD 2 ((facS (n - 1)).drop di), rvD 0 ((facS (n + 1)).drop ui)) → R_isEnough 27 115 h = some (b2i (decide (pfS n 4 (prE ((facS (n - 1)).drop di)) (prE ((facS (n + 1)).drop ui)) = 0))) := by
    intro f di ui up h l1 l2 H L
    have okd : ∀ r ∈ rvD 2 ((facS (n - 1)).drop di), okR r := fun r hr => by
      obtain ⟨x, hx, rfl⟩ := rvD_m hr
      have := nb_lo1 hn (List.mem_of_mem_drop hx)
      exact rD_ok hn ⟨this.1, this.2.1, this.2.2.1, this.2.2.2.2⟩
    have oku : ∀ r ∈ rvD 0 ((facS (n + 1)).drop ui), okR r := fun r hr => by
      obtain ⟨x, hx, rfl⟩ := rvD_m hr
      have := nb_hi1 hn (List.mem_of_mem_drop hx)
      exact rD_ok hn ⟨this.1, this.2.1, this.2.2.1, this.2.2.2.2⟩
    have dvd : prE ((facS (n - 1)).drop di) ∣ n - 1 := by
      have := prE_d (facS (n - 1)) di
      rw [lo.1.2.2] at this
      exact this
    have dvu : prE ((facS (n + 1)).drop ui) ∣ n + 1 := by
      have := prE_d (facS (n + 1)) ui
      rw [hi.1.2.2] at this
      exact this
    have en := s_RisEnough H (by omega) L (show okN hd.1 by rw [e1]; exact ⟨by omega, n2⟩) okd oku (show 1 ≤ hd.2.1 ∧ hd.2.1 ≤ 4 by omega) (by
      show pfS hd.1 hd.2.1 (prF (rvD 2 ((facS (n - 1)).drop di))) (prF (rvD 0 ((facS (n + 1)).drop ui))) ≠ 3
      rw [e1, e2, prF_v, prF_v]
      exact pf_n3 (Or.inr rfl) dvd (fun _ => dvu))
    refine en.trans ?_
    show some (b2i (decide (pfS hd.1 hd.2.1 (prF (rvD 2 ((facS (n - 1)).drop di))) (prF (rvD 0 ((facS (n + 1)).drop ui))) = 0))) = _
    rw [e1, e2, prF_v, prF_v]
  have full : pfS n 4 (prE ((facS (n - 1)).drop 0)) (prE ((facS (n + 1)).drop 0)) = 0 := by
    rw [List.drop_zero, List.drop_zero, lo.1.2.2, hi.1.2.2]
    exact pf_all hn (Or.inr rfl) (fun _ => rfl)
  induction k with
  | zero =>
    intro f di ui up h hk hf l1 l2 H L
    obtain ⟨f, rfl, -⟩ := fu_pos hf
    have z1 : di = 0 := by omega
    have z2 : ui = 0 := by omega
    subst z1 z2
    refine ⟨h, ?_, Fr.rf, L⟩
    unfold R_turns_34
    refine gB H.t27 ?_
    refine cB (step f 0 0 up h l1 l2 H L) ?_
    rw [decide_eq_true full]
    exact ifF (by decide) rfl
  | succ k ih =>
    intro f di ui up h hk hf l1 l2 H L
    obtain ⟨f, rfl, hf⟩ := fu_pos hf
    have en := step f di ui up h l1 l2 H L
    by_cases p0 : pfS n 4 (prE ((facS (n - 1)).drop di)) (prE ((facS (n + 1)).drop ui)) = 0
    · refine ⟨h, ?_, Fr.rf, ?_⟩
      · unfold R_turns_34
        refine gB H.t27 ?_
        refine cB en ?_
        rw [decide_eq_true p0]
        exact ifF (by decide) rfl
      · unfold tuN
        rw [if_pos p0]
        exact L
    · have lo9 := lo.2
      have hi9 := hi.2
      have some1 : 0 < di ∨ 0 < ui := by
        rcases Nat.eq_zero_or_pos di with z1 | z1
        · rcases Nat.eq_zero_or_pos ui with z2 | z2
          · subst z1 z2; exact absurd full p0
          · exact Or.inr z2
        · exact Or.inl z1
      -- an up row
      have goUp : 0 < ui → ∃ h', R_turns_69 (fun a0 a1 a2 a3 a4 a5 h0 => R_turns_34 f a0 a1 a2 a3 a4 a5 h0) 27 115 n ((di : Int) - 1) ((ui : Int) - 1) 1 h = some h' ∧ Fr YK h h' ∧ LM h' 115 (hd, rvD 2 ((facS (n - 1)).drop (tuN n 4 (facS (n - 1)) (facS (n + 1)) k di (ui - 1) false).1), rvD 0 ((facS (n + 1)).drop (tuN n 4 (facS (n - 1)) (facS (n + 1)) k di (ui - 1) false).2)) := by
        intro z
        obtain ⟨h1, e3, F1, D1⟩ := s_laysFactors H (n := n + 1) (by omega) (by omega)
        have H1 := H.fr F1 fun b j => XK.mut
        have L1 := L.fr F1 fun b j y w => by unfold MK at y; unfold XK at w; omega
        obtain ⟨h2, e4, F2, L2⟩ := s_rowsU H1 (by omega) L1 (by show (rvD 0 ((facS (n + 1)).drop ui)).length < 9; rw [rvD_l]; omega) D1 (i := ui - 1) (by omega) (b := 2)
        have L2' : LM h2 115 (hd, rvD 2 ((facS (n - 1)).drop di), rvD 0 ((facS (n + 1)).drop ui) ++ [rD 0 (ge (facS (n + 1)) (ui - 1))]) := L2
        rw [← rvD_s (by omega) l2] at L2'
        obtain ⟨h3, e5, F3, L3⟩ := ih f di (ui - 1) false h2 (by omega) (by omega) l1 (by omega) (H1.fr F2 fun b j => MK.mut) L2'
        refine ⟨h3, ?_, (F1.mo fun b j z => Or.inr z).tr ((F2.mo fun b j z => Or.inl z).tr F3), L3⟩
        unfold R_turns_69
        refine ifF (by omega) ?_
        unfold R_turns_88
        rw [w64_e (by omega)]
        refine gB H.t27 ?_
        refine cB e3 ?_
        refine ifF (by omega) ?_
        unfold R_turns_106
        refine gB H1.t27 ?_
        rw [show (ui : Int) - 1 = ((ui - 1 : Nat) : Int) by omega]
        refine cB e4 ?_
        refine ifF (by omega) ?_
        refine ifF (by omega) ?_
        rw [w32_e (by omega), show ((ui - 1 : Nat) : Int) + -1 = ((ui - 1 : Nat) : Int) - 1 by omega]
        exact e5
      have goDn : 0 < di → ∃ h', R_turns_69 (fun a0 a1 a2 a3 a4 a5 h0 => R_turns_34 f a0 a1 a2 a3 a4 a5 h0) 27 115 n ((di : Int) - 1) ((ui : Int) - 1) 0 h = some h' ∧ Fr YK h h' ∧ LM h' 115 (hd, rvD 2 ((facS (n - 1)).drop (tuN n 4 (facS (n - 1)) (facS (n + 1)) k (di - 1) ui true).1), rvD 0 ((facS (n + 1)).drop (tuN n 4 (facS (n - 1)) (facS (n + 1)) k (di - 1) ui true).2)) := by
        intro z
        obtain ⟨h1, e3, F1, D1⟩ := s_laysFactors H (n := n - 1) (by omega) (by omega)
        have H1 := H.fr F1 fun b j => XK.mut
        have L1 := L.fr F1 fun b j y w => by unfold MK at y; unfold XK at w; omega
        obtain ⟨h2, e4, F2, L2⟩ := s_rowsD H1 (by omega) L1 (by show (rvD 2 ((facS (n - 1)).drop di)).length < 9; rw [rvD_l]; omega) D1 (i := di - 1) (by omega) (b := 2)
        have L2' : LM h2 115 (hd, rvD 2 ((facS (n - 1)).drop di) ++ [rD 2 (ge (facS (n - 1)) (di - 1))], rvD 0 ((facS (n + 1)).drop ui)) := L2
        rw [← rvD_s (by omega) l1] at L2'
        obtain ⟨h3, e5, F3, L3⟩ := ih f (di - 1) ui true h2 (by omega) (by omega) (by omega) l2 (H1.fr F2 fun b j => MK.mut) L2'
        refine ⟨h3, ?_, (F1.mo fun b j z => Or.inr z).tr ((F2.mo fun b j z => Or.inl z).tr F3), L3⟩
        unfold R_turns_69
        refine ifT rfl ?_
        unfold R_turns_88
        rw [w64_e (by omega)]
        refine gB H.t27 ?_
        refine cB e3 ?_
        refine ifT rfl ?_
        unfold R_turns_106
        refine gB H1.t27 ?_
        rw [show (di : Int) - 1 = ((di - 1 : Nat) : Int) by omega]
        refine cB e4 ?_
        refine ifT rfl ?_
        refine ifT rfl ?_
        rw [w32_e (by omega), show ((di - 1 : Nat) : Int) + -1 = ((di - 1 : Nat) : Int) - 1 by omega]
        exact e5
      have pre : ∀ {r}, (if b2i up = 0 then (if (di : Int) - 1 < 0 then R_turns_69 (fun a0 a1 a2 a3 a4 a5 h0 => R_turns_34 f a0 a1 a2 a3 a4 a5 h0) 27 115 n ((di : Int) - 1) ((ui : Int) - 1) 1 h else R_turns_69 (fun a0 a1 a2 a3 a4 a5 h0 => R_turns_34 f a0 a1 a2 a3 a4 a5 h0) 27 115 n ((di : Int) - 1) ((ui : Int) - 1) 0 h) else (if (ui : Int) - 1 < 0 then R_turns_69 (fun a0 a1 a2 a3 a4 a5 h0 => R_turns_34 f a0 a1 a2 a3 a4 a5 h0) 27 115 n ((di : Int) - 1) ((ui : Int) - 1) 0 h else R_turns_69 (fun a0 a1 a2 a3 a4 a5 h0 => R_turns_34 f a0 a1 a2 a3 a4 a5 h0) 27 115 n ((di : Int) - 1) ((ui : Int) - 1) 1 h)) = r → R_turns_34 (f + 1) 27 115 n ((di : Int) - 1) ((ui : Int) - 1) (b2i up) h = r := by
        rintro r rfl
        conv => lhs; unfold R_turns_34
        refine gB H.t27 ?_
        refine cB en ?_
        rw [decide_eq_false p0]
        exact ifT rfl rfl
      unfold tuN
      rw [if_neg p0]
      cases up
      · by_cases z : di = 0
        · have zu : 0 < ui := by omega
          rw [if_pos ⟨zu, Or.inr z⟩]
          obtain ⟨h', e', F', L'⟩ := goUp zu
          exact ⟨h', pre (ifT rfl (ifT (by omega) e')), F', L'⟩
        · rw [if_neg (fun w => by rcases w.2 with w | w; exact absurd w (by decide); exact z w), if_pos (by omega)]
          obtain ⟨h', e', F', L'⟩ := goDn (by omega)
          exact ⟨h', pre (ifT rfl (ifF (by omega) e')), F', L'⟩
      · by_cases z : 0 < ui
        · rw [if_pos ⟨z, Or.inl rfl⟩]
          obtain ⟨h', e', F', L'⟩ := goUp z
          exact ⟨h', pre (ifF (by decide) (ifF (by omega) e')), F', L'⟩
        · rw [if_neg (fun w => z w.1), if_pos (by omega)]
          obtain ⟨h', e', F', L'⟩ := goDn (by omega)
          exact ⟨h', pre (ifF (by decide) (ifT (by omega) e')), F', L'⟩
theorem s_laysRows {n s : Int} (hn : nbOK n) (hs : 1 ≤ s ∧ s ≤ 4) {h : AH} (H : Sh h) (L : LM h 115 ((n, s, 0, 0), [], [])) : ∃ h', R_laysRows 27 115 h = some h' ∧ Fr YK h h' ∧ LM h' 115 ((n, s, 0, 0), (lyS n s 2).1, (lyS n s 2).2) := by
  have lo := nb_lo hn
  have hi := nb_hi hn
  obtain ⟨n1, n2, n3⟩ := id hn
  let h0 := hSet (hSet h 37 115 0) 38 115 0
  have F0 : Fr YK h h0 := (Fr.set (Or.inl (by unfold MK; omega))).setT (Or.inl (by unfold MK; omega))
  have H0 := H.fr F0 fun b j => YK.mut
  have L0 : LM h0 115 ((n, s, 0, 0), [], []) := by
    obtain ⟨⟨a1, a2, a3, a4⟩, ⟨d1, -⟩, u1, -⟩ := L
    refine ⟨⟨?_, ?_, ?_, ?_⟩, ⟨?_, Nat.zero_le _, fun i hi => absurd hi (Nat.not_lt_zero i), fun i hi => absurd hi (Nat.not_lt_zero i)⟩, ?_, Nat.zero_le _, fun i hi => absurd hi (Nat.not_lt_zero i)⟩
    · rw [cN (by omega), cN (by omega)]; exact a1
    · rw [cN (by omega), cN (by omega)]; exact a2
    · rw [cN (by omega), cN (by omega)]; exact a3
    · rw [cN (by omega), cN (by omega)]; exact a4
    · rw [cN (by omega)]; exact cS _ _ _ _
    · exact cS _ _ _ _
  have pre : ∀ {r}, (if s = 1 then (if s = 1 then R_laysRows_55 27 115 s (n - 1) 27 h0 else R_laysRows_55 27 115 s (n + 1) 27 h0) else if s = 3 then (if s = 1 then R_laysRows_55 27 115 s (n - 1) 27 h0 else R_laysRows_55 27 115 s (n + 1) 27 h0) else if s = 2 then ((gd (hTy h0 27 = 10) 0).bind fun _ =>
        (R_laysFactors 27 (n - 1) h0).bind fun h10 =>
        (gd (hTy h10 27 = 10) (hCe h10 27 6)).bind fun u11 =>
        R_laysRows_118 FU 27 115 (w32 (u11 - 1)) h10) else if s = 4 then ((gd (hTy h0 27 = 10) 0).bind fun _ =>
          (R_turns 27 115 n h0).bind fun h13 =>
          some h13) else some h0) = r → R_laysRows 27 115 h = r := by
    rintro r rfl
    unfold R_laysRows
    refine gB H.t27 ?_
    rw [H.p27_9]
    refine gB ⟨H.t34, by omega, by rw [H.l34]; omega⟩ ?_
    refine gB H.t27 ?_
    rw [H.p27_8]
    refine gB ⟨H.t33, by omega, by rw [H.l33]; omega⟩ ?_
    refine gB H.t27 ?_
    rw [H.p27_12]
    refine gB ⟨H.t37, by omega, by rw [H.l37]; omega⟩ ?_
    refine gB H.t27 ?_
    rw [cN (b := 27) (j := 13) (by omega), H.p27_13]
    refine gB ⟨H.t38, by omega, by show _ < hLn h 38; rw [H.l38]; omega⟩ ?_
    have a1 : hCe h 33 115 = n := L.1.1
    have a2 : hCe h 34 115 = s := L.1.2.1
    rw [a1, a2, w64_e (z := n - 1) (by omega), w64_e (z := n + 1) (by omega)]
  by_cases s1 : s = 1
  · subst s1
    obtain ⟨h1, e1, F1, D1⟩ := s_laysFactors H0 (n := n - 1) (by omega) (by omega)
    have H1 := H0.fr F1 fun b j => XK.mut
    have L1 := L0.fr F1 fun b j y w => by unfold MK at y; unfold XK at w; omega
    obtain ⟨h2, e2, F2, -, L2⟩ := lr_all (s := 1) (hd := (n, 1, 0, 0)) (fs := facS (n - 1)) (facS (n - 1)).length FU 0 h1 (by omega) (fu_big (by have := lo.2; omega)) H1 D1 (fun z => by omega) (fun _ => L1)
    refine ⟨h2, pre (ifT rfl (ifT rfl ?_)), F0.tr ((F1.mo fun b j z => Or.inr z).tr F2), L2 (by omega)⟩
    unfold R_laysRows_55
    refine gB H0.t27 ?_
    exact cB e1 e2
  · by_cases s3 : s = 3
    · subst s3
      obtain ⟨h1, e1, F1, D1⟩ := s_laysFactors H0 (n := n + 1) (by omega) (by omega)
      have H1 := H0.fr F1 fun b j => XK.mut
      have L1 := L0.fr F1 fun b j y w => by unfold MK at y; unfold XK at w; omega
      obtain ⟨h2, e2, F2, L2, -⟩ := lr_all (s := 3) (hd := (n, 3, 0, 0)) (fs := facS (n + 1)) (facS (n + 1)).length FU 0 h1 (by omega) (fu_big (by have := hi.2; omega)) H1 D1 (fun _ => L1) (fun z => absurd rfl z)
      refine ⟨h2, pre (ifF (by omega) (ifT rfl (ifF (by omega) ?_))), F0.tr ((F1.mo fun b j z => Or.inr z).tr F2), L2 rfl⟩
      unfold R_laysRows_55
      refine gB H0.t27 ?_
      exact cB e1 e2
    · by_cases s2 : s = 2
      · subst s2
        obtain ⟨h1, e1, F1, D1⟩ := s_laysFactors H0 (n := n - 1) (by omega) (by omega)
        have H1 := H0.fr F1 fun b j => XK.mut
        have L1 := L0.fr F1 fun b j y w => by unfold MK at y; unfold XK at w; omega
        have L1' : LM h1 115 ((n, 2, 0, 0), rvD 2 ((facS (n - 1)).drop (facS (n - 1)).length), []) := by rw [dr_e (Nat.le_refl _)]; exact L1
        have lo9 := lo.2
        obtain ⟨h2, e2, F2, L2⟩ := lr_part hn (hd := (n, 2, 0, 0)) rfl rfl 18 FU (facS (n - 1)).length false h1 (by omega) (fu_big (by omega)) (Nat.le_refl _) H1 D1 L1'
        refine ⟨h2, pre (ifF (by omega) (ifF (by omega) (ifT rfl ?_))), F0.tr ((F1.mo fun b j z => Or.inr z).tr F2), L2⟩
        refine gB H0.t27 ?_
        refine cB e1 ?_
        refine gB H1.t27 ?_
        rw [D1.1, w32_e (by omega)]
        exact e2
      · have s4 : s = 4 := by omega
        subst s4
        obtain ⟨h1, e1, F1, D1⟩ := s_laysFactors H0 (n := n - 1) (by omega) (by omega)
        have H1 := H0.fr F1 fun b j => XK.mut
        have L1 := L0.fr F1 fun b j y w => by unfold MK at y; unfold XK at w; omega
        obtain ⟨h2, e2, F2, D2⟩ := s_laysFactors H1 (n := n + 1) (by omega) (by omega)
        have H2 := H1.fr F2 fun b j => XK.mut
        have L2 := L1.fr F2 fun b j y w => by unfold MK at y; unfold XK at w; omega
        have L2' : LM h2 115 ((n, 4, 0, 0), rvD 2 ((facS (n - 1)).drop (facS (n - 1)).length), rvD 0 ((facS (n + 1)).drop (facS (n + 1)).length)) := by rw [dr_e (Nat.le_refl _), dr_e (Nat.le_refl _)]; exact L2
        have lo9 := lo.2
        have hi9 := hi.2
        obtain ⟨h3, e3, F3, L3⟩ := lr_turns hn (hd := (n, 4, 0, 0)) rfl rfl 18 FU (facS (n - 1)).length (facS (n + 1)).length false h2 (by omega) (fu_big (by omega)) (Nat.le_refl _) (Nat.le_refl _) H2 L2'
        refine ⟨h3, pre (ifF (by omega) (ifF (by omega) (ifF (by omega) (ifT rfl ?_)))), F0.tr ((F1.mo fun b j z => Or.inr z).tr ((F2.mo fun b j z => Or.inr z).tr F3)), L3⟩
        refine gB H0.t27 ?_
        refine cB ?_ rfl
        unfold R_turns
        rw [w64_e (z := n - 1) (by omega), w64_e (z := n + 1) (by omega)]
        refine gB H0.t27 ?_
        refine cB e1 ?_
        refine gB H1.t27 ?_
        refine gB H1.t27 ?_
        refine cB e2 ?_
        refine gB H2.t27 ?_
        rw [D1.1, D2.1, w32_e (by omega), w32_e (by omega)]
        exact e3
