/-! right lines alone are asked: cost, loose -/
theorem FUL.rt {h : AH} {hw dw : Nat} {ls : List LN} (U : FUL h hw dw ls) {k : Nat} (hk : k < ls.length) : Ledger_isRight 1 k h = some (b2i (rtS ls k)) := by
  obtain ⟨C, S, m, B⟩ := U
  rw [s_isRight C (C.m63 (k := 0) B.2.1) B.1 hk, B.2.2 k hk]
theorem rt_if {h : AH} {hw dw : Nat} {ls : List LN} (U : FUL h hw dw ls) {k : Nat} (hk : k < ls.length) {α : Type} {A B r : Option α} (c : (if rtS ls k = true then B else A) = r) : ((Ledger_isRight 1 k h).bind fun u => if u = 0 then A else B) = r := by
  refine cB (U.rt hk) ?_
  cases e : rtS ls k with
  | true => rw [e, if_pos rfl] at c; exact ifF one_ne c
  | false => rw [e, if_neg (by decide)] at c; exact ifT rfl c
theorem s_isRightLine {h h' : AH} {ls : List LN} {tp : List Int} (m : MS h ls tp) (e : R_laysRight 27 h = some h') (m' : MS h' ls tp) (L : LR h' ls ls.length) {k : Nat} (hk : k < ls.length) : R_isRightLine 27 k h = some (b2i (rtS ls k), h') := by
  have l60 := m.2.1.2.1
  unfold R_isRightLine
  refine gB m.1.t27 ?_
  refine cB e ?_
  refine gB m'.1.t27 ?_
  rw [m'.1.p27_19]
  refine gB ⟨Or.inr m'.1.t44, by omega, by rw [m'.1.l44]; omega⟩ ?_
  rw [(L k hk).1]
  refine gB ?_ rfl
  cases rtS ls k <;> decide
theorem rrt_if {h h' : AH} {ls : List LN} {tp : List Int} (m : MS h ls tp) (e : R_laysRight 27 h = some h') (m' : MS h' ls tp) (L : LR h' ls ls.length) {k : Nat} (hk : k < ls.length) {α : Type} {A B : AH → Option α} {r : Option α} (c : (if rtS ls k = true then B h' else A h') = r) : ((R_isRightLine 27 k h).bind fun u => if u.1 = 0 then A u.2 else B u.2) = r := by
  refine cB (s_isRightLine m e m' L hk) ?_
  cases e : rtS ls k with
  | true => rw [e, if_pos rfl] at c; exact ifF one_ne c
  | false => rw [e, if_neg (by decide)] at c; exact ifT rfl c
/-- a question about a right line -/
theorem q_ask {X : Int → AH → Option Int} {R : Int → AH → Option (Int × AH)} {i : Int} {Bx : Nat → AH → Option Int} {Br : Nat → AH → Option (Int × AH)} (v : List LN → Nat → Int)
    (xd : ∀ h, Sh h → ∀ k : Nat, ∀ {r}, ((Ledger_has 1 (k : Int) h).bind fun u2 => if u2 = 0 then some (-1) else (Ledger_isRight 1 k h).bind fun u4 => if u4 = 0 then some (-2) else Bx k h) = r → X k h = r)
    (x0 : ∀ h hw dw ls, FUL h hw dw ls → ¬ (0 ≤ i ∧ i < ls.length) → X i h = some (-1))
    (rd : ∀ h, Sh h → ∀ k : Nat, ∀ {r}, ((R_isLine 27 (k : Int) h).bind fun u1 => if u1 = 0 then some (-1, h) else (R_isRightLine 27 k h).bind fun u2 => if u2.1 = 0 then some (-2, u2.2) else Br k u2.2) = r → R k h = r)
    (r0 : ∀ h ls tp, MS h ls tp → ¬ (0 ≤ i ∧ i < ls.length) → R i h = some (-1, h))
    (cx : ∀ h hw dw ls (k : Nat), FUL h hw dw ls → k < ls.length → rtS ls k = true → Bx k h = some (v ls k))
    (cr : ∀ h ls tp (k : Nat), MS h ls tp → LR h ls ls.length → k < ls.length → rtS ls k = true → Br k h = some (v ls k, h)) : sim (fun h => lft (X i h) h) (fun h => R i h) := mk_sim fun ls tp ok => by
  by_cases q : 0 ≤ i ∧ i < ls.length
  · obtain ⟨k, rfl⟩ := Int.eq_ofNat_of_zero_le q.1
    have hk : k < ls.length := by omega
    refine ⟨if rtS ls k = true then v ls k else -2, ls, tp, xC.keep fun h hw dw U t => lft_s ?_, rC.lay fun h h' m e m' L => ?_⟩
    · refine xd h U.1.1 k (has_if U.1 ?_)
      rw [if_pos q]
      refine rt_if U hk ?_
      by_cases z : rtS ls k = true
      · rw [if_pos z, if_pos z]; exact cx h hw dw ls k U hk z
      · rw [if_neg z, if_neg z]
    · refine rd h m.1 k (rhas_if m ?_)
      rw [if_pos q]
      refine rrt_if (A := fun h => some (-2, h)) (B := fun h => Br k h) m e m' L hk ?_
      by_cases z : rtS ls k = true
      · rw [if_pos z, if_pos z]; exact cr h' ls tp k m' L hk z
      · rw [if_neg z, if_neg z]
  · exact ⟨-1, ls, tp, xC.keep fun h hw dw U t => lft_s (x0 h hw dw ls U q), rC.keep fun h m => r0 h ls tp m q⟩
/-! ### cost -/
theorem rcost_loop : ∀ (n f k : Nat) (acc : Int), k < 2 ^ n → n ≤ 31 → n < f → -2 ≤ acc → acc + 2 * n ≤ 1000 → R_costOf_5 f acc k = some (acc + pc0 (n + 1) k) := by
  intro n
  induction n with
  | zero =>
    intro f k acc hk hn hf a1 a2
    obtain ⟨f, rfl, -⟩ := fu_pos hf
    have : k = 0 := by simp at hk; omega
    subst this
    unfold R_costOf_5
    refine ifF (by omega) ?_
    unfold pc0
    rw [if_pos rfl, Int.add_zero]
  | succ n ih =>
    intro f k acc hk hn hf a1 a2
    obtain ⟨f, rfl, hf⟩ := fu_pos hf
    have hk31 : k < 2147483648 := Nat.lt_of_lt_of_le hk (Nat.pow_le_pow_right (by omega) hn)
    unfold R_costOf_5 pc0
    by_cases q : k = 0
    · subst q
      refine ifF (by omega) ?_
      rw [if_pos rfl, Int.add_zero]
    · refine ifT (by omega) ?_
      rw [tm_e (by omega), td_e (by omega), show ((k : Int) % 2) = ((k % 2 : Nat) : Int) by omega, show ((k : Int) / 2) = ((k / 2 : Nat) : Int) by omega]
      refine gB (by omega) ?_
      refine gB (by omega) ?_
      rw [w32_e (z := ((k / 2 : Nat) : Int)) (by omega), w32_e (z := 1 + ((k % 2 : Nat) : Int)) (by omega), w32_e (by omega), if_neg q, ih f (k / 2) _ (by rw [Nat.pow_succ] at hk; omega) (by omega) (by omega) (by omega) (by omega)]
      congr 1
      omega
theorem s_RcostOf {k : Int} (hk : 0 ≤ k ∧ k < 2147483648) : R_costOf k = some (pcS k) := by
  obtain ⟨k, rfl⟩ := Int.eq_ofNat_of_zero_le hk.1
  unfold R_costOf pcS
  rw [rcost_loop 31 FU k (-2) (by omega) (by omega) (fu_big (by omega)) (by omega) (by omega), Int.toNat_natCast]
  show some (-2 + pc0 32 k) = some (pc0 32 k - 2)
  congr 1
  omega
theorem rco_loop {h : AH} {ls : List LN} {tp : List Int} (m : MS h ls tp) {k : Nat} (hk : k < ls.length) : ∀ (n f i : Nat) (acc : Int), i + n = (gl ls k).2.1.length → n < f → -1000 + 4 * n ≤ acc → acc + 124 * n ≤ 3000 → R_costsOf_7 f 27 k acc ((9 * k + i : Nat) : Int) h = some (acc + coS (gl ls k).1.1 ((gl ls k).2.1.drop i)) := by
  have H := m.1
  have l60 := m.2.1.2.1
  have okl := (m.2.1.2.2 k hk).2
  obtain ⟨⟨a1', -⟩, ⟨d1, d9, d3, -⟩, -⟩ := (m.2.1.2.2 k hk).1
  have n2 := okl.1.2
  have n1 := okl.1.1
  intro n
  induction n with
  | zero =>
    intro f i acc hi hf a1 a2
    obtain ⟨f, rfl, -⟩ := fu_pos hf
    unfold R_costsOf_7
    refine gB H.t27 ?_
    rw [H.p27_12]
    refine gB ⟨H.t37, by omega, by rw [H.l37]; omega⟩ ?_
    rw [d1, w32_e (z := 9 * (k : Int)) (by omega), w32_e (z := 9 * (k : Int) + (gl ls k).2.1.length) (by omega)]
    refine ifF (by omega) ?_
    rw [dr_e (by omega)]
    unfold coS
    rw [Int.add_zero]
  | succ n ih =>
    intro f i acc hi hf a1 a2
    obtain ⟨f, rfl, hf⟩ := fu_pos hf
    have hi' : i < (gl ls k).2.1.length := by omega
    have hr := (okl.2.2.2.1 _ (gt_mem hi')).1.1
    have db := dv_bd (n := (gl ls k).1.1 - 1) (q := (gt (gl ls k).2.1 i).1) (by omega) (by omega)
    have h2 := pcS_bd ((gl ls k).1.1 - 1)
    have h3 := pcS_bd (((gl ls k).1.1 - 1) / (gt (gl ls k).2.1 i).1)
    have c := (d3 i hi').1
    rw [show 9 * (k : Int) + i = ((9 * k + i : Nat) : Int) by omega] at c
    unfold R_costsOf_7
    refine gB H.t27 ?_
    rw [H.p27_12]
    refine gB ⟨H.t37, by omega, by rw [H.l37]; omega⟩ ?_
    rw [d1, w32_e (z := 9 * (k : Int)) (by omega), w32_e (z := 9 * (k : Int) + (gl ls k).2.1.length) (by omega)]
    refine ifT (by omega) ?_
    refine gB H.t27 ?_
    rw [H.p27_8]
    refine gB ⟨H.t33, by omega, by rw [H.l33]; omega⟩ ?_
    rw [a1', w32_e (z := (gl ls k).1.1 - 1) (by omega)]
    refine cB (s_RcostOf (by omega)) ?_
    refine gB H.t27 ?_
    refine gB ⟨H.t33, by omega, by rw [H.l33]; omega⟩ ?_
    refine gB H.t27 ?_
    rw [H.p27_14]
    refine gB ⟨H.t39, by omega, by rw [H.l39]; omega⟩ ?_
    rw [a1', w32_e (z := (gl ls k).1.1 - 1) (by omega), c, td_e (by omega), w32_e (z := ((gl ls k).1.1 - 1) / (gt (gl ls k).2.1 i).1) (by omega)]
    refine gB (by omega) ?_
    refine cB (s_RcostOf (by omega)) ?_
    rw [w32_e (z := pcS ((gl ls k).1.1 - 1) + pcS (((gl ls k).1.1 - 1) / (gt (gl ls k).2.1 i).1)) (by omega), w32_e (by omega), w32_e (by omega)]
    refine (ih f (i + 1) _ (by omega) (by omega) (by omega) (by omega)).trans ?_
    rw [gt_dr hi']
    congr 1
    show _ = acc + (pcS ((gl ls k).1.1 - 1) + pcS (((gl ls k).1.1 - 1) / (gt (gl ls k).2.1 i).1) + coS (gl ls k).1.1 ((gl ls k).2.1.drop (i + 1)))
    omega
theorem s_costsOf {h : AH} {ls : List LN} {tp : List Int} (m : MS h ls tp) {k : Nat} (hk : k < ls.length) : R_costsOf 27 k h = some (coS (gl ls k).1.1 (gl ls k).2.1) := by
  have l60 := m.2.1.2.1
  have d9 := (m.2.1.2.2 k hk).1.2.1.2.1
  unfold R_costsOf
  rw [w32_e (by omega), show 9 * (k : Int) = ((9 * k + 0 : Nat) : Int) by omega]
  refine (rco_loop m hk (gl ls k).2.1.length FU 0 0 (by omega) (fu_big (by omega)) (by omega) (by omega)).trans ?_
  rw [List.drop_zero, Int.zero_add]
theorem q_cost (i : Int) : sim (fun h => lft (X_cost 0 i h) h) (fun h => R_cost 27 i h) := by
  refine q_ask (X := fun i h => X_cost 0 i h) (R := fun i h => R_cost 27 i h) (Bx := fun k h => (gd (hTy h 0 = 9) 1).bind fun u5 => (gd (hTy h u5 = 3) (hCe h u5 0)).bind fun u6 => (gd (hTy h u6 = 26 ∧ 0 ≤ (k : Int) ∧ (k : Int) < hLn h u6) (hCe h u6 k)).bind fun u7 => (Checker_costOf u7 h).bind fun u8 => some u8) (Br := fun k h => (gd (hTy h 27 = 10) 0).bind fun _ => (R_costsOf 27 k h).bind fun u3 => some (u3, h)) (fun ls k => coS (gl ls k).1.1 (gl ls k).2.1) ?_ ?_ ?_ ?_ ?_ ?_
  · rintro h H k r rfl
    show X_cost 0 k h = _
    unfold X_cost
    refine gB H.t0 ?_
    rw [H.p0_0]
    refine gB H.t1 ?_
    congr 1
    funext u
    congr 1
    refine gB H.t0 ?_
    exact gB H.t1 rfl
  · intro h hw dw ls U q
    show X_cost 0 i h = _
    unfold X_cost
    refine gB U.1.1.t0 ?_
    rw [U.1.1.p0_0]
    refine gB U.1.1.t1 ?_
    refine has_if U.1 ?_
    rw [if_neg q]
  · rintro h H k r rfl
    show R_cost 27 k h = _
    unfold R_cost
    refine gB H.t27 ?_
    congr 1
    funext u
    congr 1
    exact gB H.t27 rfl
  · intro h ls tp m q
    show R_cost 27 i h = _
    unfold R_cost
    refine gB m.1.t27 ?_
    refine rhas_if m ?_
    rw [if_neg q]
  · intro h hw dw ls k U hk rt
    have ok := U.1.ok hk
    have H := U.1.1
    refine gB H.t0 ?_
    refine gB H.t1 ?_
    rw [H.p1_0]
    exact U.1.lnA hk (cB (s_costOf (U.1.ln hk) ok.1 fun r hr => by have := (ok.2.2.2.1 r hr).1.1; omega) rfl)
  · intro h ls tp k m L hk rt
    refine gB m.1.t27 ?_
    exact cB (s_costsOf m hk) rfl
/-! ### loose -/
theorem rl_loop {h : AH} {ls : List LN} {tp : List Int} (m : MS h ls tp) {k j : Nat} (hk : k < ls.length) (hj : j < (gl ls k).2.1.length) : ∀ (n f : Nat) (b acc : Int), b + n = 1000 → 2 ≤ b → n < f → 0 ≤ acc → acc + n ≤ 2000 → R_loose_28 f 27 k j acc b h = some (acc + gb0 (gl ls k).1.1 (gt (gl ls k).2.1 j).1 n b, h) := by
  have H := m.1
  have l60 := m.2.1.2.1
  have okl := (m.2.1.2.2 k hk).2
  obtain ⟨⟨a1', -⟩, ⟨d1, d9, d3, -⟩, -⟩ := (m.2.1.2.2 k hk).1
  have hr := (okl.2.2.2.1 _ (gt_mem hj)).1.1
  have c := (d3 j hj).1
  intro n
  induction n with
  | zero =>
    intro f b acc hb b2 hf a1 a2
    obtain ⟨f, rfl, -⟩ := fu_pos hf
    unfold R_loose_28 gb0
    refine (ifT (by omega) rfl).trans ?_
    rw [Int.add_zero]
  | succ n ih =>
    intro f b acc hb b2 hf a1 a2
    obtain ⟨f, rfl, hf⟩ := fu_pos hf
    have e1 := ih f (b + 1) acc (by omega) (by omega) (by omega) (by omega) (by omega)
    have e2 := ih f (b + 1) (acc + 1) (by omega) (by omega) (by omega) (by omega) (by omega)
    unfold R_loose_28 gb0 rfS
    refine ifF (by omega) ?_
    refine gB H.t27 ?_
    rw [H.p27_8]
    refine gB ⟨H.t33, by omega, by rw [H.l33]; omega⟩ ?_
    rw [a1']
    refine cB (s_isOneBy okl.1 (by omega)) ?_
    rw [w32_e (z := b + 1) (by omega), w32_e (z := acc + 1) (by omega)]
    by_cases z : pwS b ((gl ls k).1.1 - 1) (gl ls k).1.1 = 1
    · rw [decide_eq_true z, if_pos z]
      refine ifF one_ne ?_
      refine gB H.t27 ?_
      refine gB ⟨H.t33, by omega, by rw [H.l33]; omega⟩ ?_
      refine gB H.t27 ?_
      rw [H.p27_14, w32_e (z := 9 * (k : Int)) (by omega), w32_e (z := 9 * (k : Int) + j) (by omega)]
      refine gB ⟨H.t39, by omega, by rw [H.l39]; omega⟩ ?_
      rw [c, a1']
      refine cB (s_isApartBy okl.1 (by omega) (by omega)) ?_
      by_cases y : gcS ((pwS b (((gl ls k).1.1 - 1) / (gt (gl ls k).2.1 j).1) (gl ls k).1.1 - 1) % (gl ls k).1.1) (gl ls k).1.1 = 1
      · rw [decide_eq_true y, if_pos y, if_pos rfl]
        refine ifF one_ne ?_
        rw [e2]
        congr 2
        omega
      · rw [decide_eq_false y, if_neg y, if_neg (show ¬ (6 : Int) = 0 by decide)]
        refine ifT rfl ?_
        rw [e1]
        congr 2
        omega
    · rw [decide_eq_false z, if_neg z, if_neg (show ¬ (5 : Int) = 0 by decide)]
      refine ifT rfl ?_
      rw [e1]
      congr 2
      omega
theorem q_loose (i j : Int) : sim (fun h => lft (X_loose 0 i j h) h) (fun h => R_loose 27 i j h) := mk_sim fun ls tp ok => by
  have l60 := ok.1
  by_cases q : rowOK ls i 0 j
  · obtain ⟨⟨i0, i1⟩, j0, j1⟩ := id q
    obtain ⟨k, rfl⟩ := Int.eq_ofNat_of_zero_le i0
    obtain ⟨n, rfl⟩ := Int.eq_ofNat_of_zero_le j0
    have hk : k < ls.length := by omega
    have hj : n < (gl ls k).2.1.length := by have : (n : Int) < ((gl ls k).2.1.length : Int) := j1; omega
    have okl := ok.2.1 k hk
    refine ⟨if rtS ls k = true then gb0 (gl ls k).1.1 (gt (gl ls k).2.1 n).1 998 2 else -2, ls, tp, xC.keep fun h hw dw U t => lft_s ?_, rC.lay fun h h' m e m' L => ?_⟩
    · have H := U.1.1
      unfold X_loose
      refine gB H.t0 ?_
      rw [H.p0_0]
      refine gB H.t1 ?_
      refine row_if U.1 ?_
      rw [if_pos q]
      refine gB H.t0 ?_
      refine gB H.t1 ?_
      refine rt_if U hk ?_
      by_cases z : rtS ls k = true
      · rw [if_pos z, if_pos z]
        refine gB H.t0 ?_
        refine gB H.t1 ?_
        rw [H.p1_0]
        exact U.1.lnA hk (cB (s_goodBases (U.1.ln hk) okl.1 (fun r hr => by have := (okl.2.2.2.1 r hr).1.1; omega) hj) rfl)
      · rw [if_neg z, if_neg z]
    · show R_loose 27 k n h = _
      unfold R_loose
      refine gB m.1.t27 ?_
      refine rrow_if m ?_
      rw [if_pos q]
      refine gB m.1.t27 ?_
      refine rrt_if (A := fun h => some (-2, h)) (B := fun h => R_loose_28 FU 27 k n 0 2 h) m e m' L hk ?_
      by_cases z : rtS ls k = true
      · rw [if_pos z, if_pos z]
        have := rl_loop m' hk hj 998 FU 2 0 (by omega) (by omega) (fu_big (by omega)) (by omega) (by omega)
        rw [Int.zero_add] at this
        exact this
      · rw [if_neg z, if_neg z]
  · refine ⟨-1, ls, tp, xC.keep fun h hw dw U t => lft_s ?_, rC.keep fun h m => ?_⟩
    · have H := U.1.1
      unfold X_loose
      refine gB H.t0 ?_
      rw [H.p0_0]
      refine gB H.t1 ?_
      refine row_if U.1 ?_
      rw [if_neg q]
    · show R_loose 27 i j h = _
      unfold R_loose
      refine gB m.1.t27 ?_
      refine rrow_if m ?_
      rw [if_neg q]
