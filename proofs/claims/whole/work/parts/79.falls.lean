/-! falls -/
noncomputable def rtN (ls : List LN) : Nat := Classical.choose (ri_ex ls)
theorem rtN_s (ls : List LN) : rtN ls < 2 ^ ls.length ∧ ∀ i, i < ls.length → (rtN ls).testBit i = rtS ls i := Classical.choose_spec (ri_ex ls)
def clr (w j : Nat) : Nat := w &&& (2 ^ j ^^^ 18446744073709551615)
noncomputable def flF (ls : List LN) : Nat → Nat → Nat → Nat
  | 0, _, w => w
  | k + 1, j, w => flF ls k (j + 1) (if w.testBit j = true ∧ stS ls (fun i => w.testBit i) j = false then clr w j else w)
noncomputable def flV (ls : List LN) (k : Nat) : Nat := rtN ls &&& (flF ls (ls.length - (k + 1)) (k + 1) (clr (rtN ls) k) ^^^ 18446744073709551615)
theorem clr_le {w j k : Nat} (h : w < 2 ^ k) : clr w j < 2 ^ k := Nat.lt_of_le_of_lt Nat.and_le_left h
theorem FUL.m {h : AH} {hw dw : Nat} {ls : List LN} (U : FUL h hw dw ls) : hCe h 1 4 = (rtN ls : Int) := by
  obtain ⟨C, S, m, B⟩ := U
  rw [B.1, bit_eq B.2.1 (rtN_s ls).1 fun i hi => (B.2.2 i hi).trans ((rtN_s ls).2 i hi).symm]
theorem fl_loop {h : AH} {hw dw : Nat} {ls : List LN} (U : FUL h hw dw ls) : ∀ (n f j w : Nat), j + n = ls.length → n < f → w < 2 ^ ls.length → Ledger_fallen_18 f 1 w j h = some ((rtN ls &&& (flF ls n j w ^^^ 18446744073709551615) : Nat) : Int) := by
  have H := U.1.1
  have l60 := U.1.len
  have m63 := b63 (rtN_s ls).1 (by omega)
  intro n
  induction n with
  | zero =>
    intro f j w hj hf hw'
    obtain ⟨f, rfl, -⟩ := fu_pos hf
    have w63 := b63 hw' (by omega)
    unfold Ledger_fallen_18
    refine gB H.t1 ?_
    rw [U.1.sz]
    refine ifF (by omega) ?_
    refine gB H.t1 ?_
    rw [U.m, andL_not m63 w63]
    rfl
  | succ n ih =>
    intro f j w hj hf hw'
    obtain ⟨f, rfl, hf⟩ := fu_pos hf
    have w63 := b63 hw' (by omega)
    have p63 := p2_63 (i := j) (by omega)
    have st : ∀ {r}, (if b2i (w.testBit j) = 0 then Ledger_fallen_18 f 1 w ((j + 1 : Nat) : Int) h else if b2i (stS ls (fun i => w.testBit i) j) = 0 then Ledger_fallen_18 f 1 (clr w j : Int) ((j + 1 : Nat) : Int) h else Ledger_fallen_18 f 1 w ((j + 1 : Nat) : Int) h) = r → Ledger_fallen_18 (f + 1) 1 w j h = r := by
      rintro r rfl
      conv => lhs; unfold Ledger_fallen_18
      refine gB H.t1 ?_
      rw [U.1.sz]
      refine ifT (by omega) ?_
      refine cB (isIn_n w63 (by omega)) ?_
      rw [w32_e (z := (j : Int) + 1) (by omega), shl_1 (by omega), andL_not w63 p63]
      congr 1
      refine gB H.t1 ?_
      exact cB (s_stands U.1 w63 (by omega)) rfl
    unfold flF
    cases b : w.testBit j with
    | false =>
      rw [if_neg (fun z => by cases z.1)]
      rw [b] at st
      exact st ((if_pos rfl).trans (ih f (j + 1) w (by omega) (by omega) hw'))
    | true =>
      rw [b] at st
      cases s : stS ls (fun i => w.testBit i) j with
      | false =>
        rw [if_pos ⟨rfl, rfl⟩]
        rw [s] at st
        exact st ((if_neg one_ne).trans ((if_pos rfl).trans (ih f (j + 1) _ (by omega) (by omega) (clr_le hw'))))
      | true =>
        rw [if_neg (fun z => by cases z.2)]
        rw [s] at st
        exact st ((if_neg one_ne).trans ((if_neg one_ne).trans (ih f (j + 1) w (by omega) (by omega) hw')))
/-- the reference's array of right lines holds the word w -/
def AW (h : AH) (n w : Nat) : Prop := ∀ t : Nat, t < n → hCe h 44 t = b2i (w.testBit t)
theorem AW.rr {h : AH} {n w : Nat} (A : AW h n w) : ∀ t, t < n → RR h t = w.testBit t := fun t ht => by
  unfold RR
  rw [A t ht]
  cases w.testBit t <;> decide
theorem rfl_loop {ls : List LN} {tp : List Int} : ∀ (n f j w F : Nat) (h : AH), j + n = ls.length → n < f → MS h ls tp → AW h ls.length w → w < 2 ^ ls.length → F < 2 ^ j → (∀ t, w.testBit t = true → (rtN ls).testBit t = true) → (∀ t, t < ls.length → F.testBit t = ((rtN ls).testBit t && !w.testBit t)) → ∃ h', R_falls_40 f 27 F j h = some (((rtN ls &&& (flF ls n j w ^^^ 18446744073709551615) : Nat) : Int), h') ∧ Fr DK h h' := by
  intro n
  induction n with
  | zero =>
    intro f j w F h hj hf m A hw hF sub bits
    obtain ⟨f, rfl, -⟩ := fu_pos hf
    have H := m.1
    have l60 := m.2.1.2.1
    have e : F = rtN ls &&& (flF ls 0 j w ^^^ 18446744073709551615) := by
      refine bit_eq (k := ls.length) (by have : j = ls.length := by omega
                                         rw [← this]; exact hF) (Nat.lt_of_le_of_lt Nat.and_le_left (rtN_s ls).1) fun t ht => ?_
      rw [bits t ht, Nat.testBit_and, Nat.testBit_xor, show (18446744073709551615 : Nat) = 2 ^ 64 - 1 from rfl, Nat.testBit_two_pow_sub_one, decide_eq_true (show t < 64 by omega)]
      show _ = ((rtN ls).testBit t && ((flF ls 0 j w).testBit t ^^ true))
      rw [Bool.xor_true]
      rfl
    refine ⟨h, ?_, Fr.rf⟩
    unfold R_falls_40
    refine gB H.t27 ?_
    rw [m.2.1.1]
    refine (ifF (by omega) rfl).trans ?_
    rw [← e]
  | succ n ih =>
    intro f j w F h hj hf m A hw hF sub bits
    obtain ⟨f, rfl, hf⟩ := fu_pos hf
    have H := m.1
    have l60 := m.2.1.2.1
    have F63 := b63 hF (by omega)
    have p63 := p2_63 (i := j) (by omega)
    have F1 : F < 2 ^ (j + 1) := by rw [Nat.pow_succ]; omega
    obtain ⟨-, ⟨d1, d9, d3, -⟩, u1, u9, u3⟩ := (m.2.1.2.2 j (by omega)).1
    have aj := A j (by omega)
    unfold flF
    cases b : w.testBit j with
    | false =>
      rw [if_neg (fun z => by cases z.1)]
      obtain ⟨h', e', F'⟩ := ih f (j + 1) w F h (by omega) (by omega) m A hw F1 sub bits
      refine ⟨h', ?_, F'⟩
      rw [← e']
      conv => lhs; unfold R_falls_40
      refine gB H.t27 ?_
      rw [m.2.1.1]
      refine ifT (by omega) ?_
      refine gB H.t27 ?_
      rw [H.p27_19]
      refine gB ⟨Or.inr H.t44, by omega, by rw [H.l44]; omega⟩ ?_
      rw [aj, b, w32_e (z := (j : Int) + 1) (by omega)]
      exact ifT rfl rfl
    | true =>
      have num : ∀ t, t < j → hCe h 33 (t : Int) = (gl ls t).1.1 := fun t ht => m.2.1.num (by omega)
      have sg : ∀ l, sdL ls (RR h) j l = sdL ls (fun i => w.testBit i) j l := fun l => sdL_g fun i hi => ⟨A.rr i (by omega), rfl⟩
      have sd := s_hasAll H (by omega) num d3.q H.t39 (by rw [H.l39]; omega) (by omega) d9
      have su := s_hasAll H (by omega) num u3.q H.t42 (by rw [H.l42]; omega) (by omega) u9
      rw [sg] at sd su
      have split : stS ls (fun i => w.testBit i) j = (sdL ls (fun i => w.testBit i) j (gl ls j).2.1 && sdL ls (fun i => w.testBit i) j (gl ls j).2.2) := by
        unfold stS rows sdL
        exact List.all_append
      have st : ∀ {r}, (if b2i (stS ls (fun i => w.testBit i) j) = 0 then R_falls_40 f 27 (orL F (shlL 1 j)) ((j + 1 : Nat) : Int) (hSet h 44 j 0) else R_falls_40 f 27 F ((j + 1 : Nat) : Int) (hSet h 44 j 1)) = r → R_falls_40 (f + 1) 27 F j h = r := by
        rintro r rfl
        have c123 : ∀ s0 : Int, s0 = 0 ∨ s0 = 1 → R_falls_123 (fun a0 a1 a2 h0 => R_falls_40 f a0 a1 a2 h0) 27 F j s0 j 44 h = if s0 = 0 then R_falls_40 f 27 (orL F (shlL 1 j)) ((j + 1 : Nat) : Int) (hSet h 44 j s0) else R_falls_40 f 27 F ((j + 1 : Nat) : Int) (hSet h 44 j s0) := fun s0 hs => by
          unfold R_falls_123
          refine gB ⟨Or.inr ⟨H.t44, by omega⟩, by omega, by rw [H.l44]; omega⟩ ?_
          refine gB (by rw [tS]; exact H.t27) ?_
          rw [cN (by omega), H.p27_19]
          refine gB ⟨Or.inr (by rw [tS]; exact H.t44), by omega, by rw [lS, H.l44]; omega⟩ ?_
          rw [cS, w32_e (z := (j : Int) + 1) (by omega)]
          rfl
        conv => lhs; unfold R_falls_40
        refine gB H.t27 ?_
        rw [m.2.1.1]
        refine ifT (by omega) ?_
        refine gB H.t27 ?_
        rw [H.p27_19]
        refine gB ⟨Or.inr H.t44, by omega, by rw [H.l44]; omega⟩ ?_
        rw [aj, b]
        refine ifF one_ne ?_
        refine gB H.t27 ?_
        refine gB H.t27 ?_
        rw [H.p27_14]
        refine gB H.t27 ?_
        rw [H.p27_12]
        refine gB ⟨H.t37, by omega, by rw [H.l37]; omega⟩ ?_
        refine gB H.t27 ?_
        rw [d1, w32_e (z := 9 * (j : Int)) (by omega)]
        refine cB sd ?_
        rw [split]
        cases sdL ls (fun i => w.testBit i) j (gl ls j).2.1 with
        | false =>
          refine ifT rfl ?_
          rw [c123 0 (Or.inl rfl)]
          rfl
        | true =>
          refine ifF one_ne ?_
          refine gB H.t27 ?_
          rw [H.p27_17]
          refine gB H.t27 ?_
          rw [H.p27_13]
          refine gB ⟨H.t38, by omega, by rw [H.l38]; omega⟩ ?_
          refine gB H.t27 ?_
          rw [u1]
          refine cB su ?_
          cases sdL ls (fun i => w.testBit i) j (gl ls j).2.2 with
          | false =>
            refine ifT rfl ?_
            rw [c123 0 (Or.inl rfl)]
            rfl
          | true =>
            refine ifF one_ne ?_
            rw [c123 1 (Or.inr rfl)]
            rfl
      have Fr1 : ∀ v : Int, Fr DK h (hSet h 44 j v) := fun v => Fr.set (Or.inl rfl)
      cases s : stS ls (fun i => w.testBit i) j with
      | false =>
        rw [if_pos ⟨rfl, rfl⟩]
        rw [s] at st
        have ct : ∀ t, t < 64 → (clr w j).testBit t = (w.testBit t && !decide (j = t)) := fun t ht => tb_cl ht
        obtain ⟨h', e', F'⟩ := ih f (j + 1) (clr w j) (F ||| 2 ^ j) (hSet h 44 j 0) (by omega) (by omega) (m.frQ (Fr1 0) fun b x => DK.q) (fun t ht => by
          rw [ct t (by omega)]
          by_cases q : t = j
          · subst q; rw [cS, decide_eq_true rfl, Bool.not_true, Bool.and_false]; rfl
          · rw [cN (by omega), A t ht, decide_eq_false (fun z => q z.symm), Bool.not_false, Bool.and_true]) (clr_le hw) (Nat.or_lt_two_pow F1 (Nat.pow_lt_pow_right (by omega) (by omega))) (fun t ht => by
          refine sub t ?_
          unfold clr at ht
          rw [Nat.testBit_and, Bool.and_eq_true] at ht
          exact ht.1) (fun t ht => by
          rw [tb_or, bits t ht, ct t (by omega)]
          by_cases q : j = t
          · subst q; rw [decide_eq_true rfl, sub _ b, b]; rfl
          · rw [decide_eq_false q]
            cases (rtN ls).testBit t <;> cases w.testBit t <;> rfl)
        refine ⟨h', st ((if_pos rfl).trans ?_), (Fr1 0).tr F'⟩
        rw [shl_1 (by omega), orL_n F63 p63]
        exact e'
      | true =>
        rw [if_neg (fun z => by cases z.2)]
        rw [s] at st
        obtain ⟨h', e', F'⟩ := ih f (j + 1) w F (hSet h 44 j 1) (by omega) (by omega) (m.frQ (Fr1 1) fun b x => DK.q) (fun t ht => by
          by_cases q : t = j
          · subst q; rw [cS, b]; rfl
          · rw [cN (by omega)]; exact A t ht) hw F1 sub bits
        exact ⟨h', st ((if_neg one_ne).trans e'), (Fr1 1).tr F'⟩
theorem q_falls (i : Int) : sim (fun h => lft (X_falls 0 i h) h) (fun h => R_falls 27 i h) := by
  refine q_ask2 (X := fun i h => X_falls 0 i h) (R := fun i h => R_falls 27 i h) (Bx := fun k h => (gd (hTy h 0 = 9) 1).bind fun u5 => (gd (hTy h u5 = 3) 0).bind fun _ => (Ledger_fallen u5 k h).bind fun u6 => some u6) (Br := fun k h => (gd (hTy h 27 = 10) (hCe h 27 19)).bind fun u3 => (gd ((hTy h u3 = 23 ∧ -128 ≤ (0 : Int) ∧ (0 : Int) ≤ 127 ∨ hTy h u3 = 25 ∧ 0 ≤ (0 : Int) ∧ (0 : Int) ≤ 1) ∧ 0 ≤ (k : Int) ∧ (k : Int) < hLn h u3) (hSet h u3 k (0 : Int))).bind fun h4 => R_falls_40 FU 27 (shlL 1 k) (w32 ((k : Int) + 1)) h4) (fun ls k => (flV ls k : Int)) ?_ ?_ ?_ ?_ ?_ ?_
  · rintro h H k r rfl
    show X_falls 0 k h = _
    unfold X_falls
    refine gB H.t0 ?_
    rw [H.p0_0]
    refine gB H.t1 ?_
    congr 1
    funext u
    congr 1
    refine gB H.t0 ?_
    exact gB H.t1 rfl
  · intro h hw dw ls U q
    show X_falls 0 i h = _
    unfold X_falls
    refine gB U.1.1.t0 ?_
    rw [U.1.1.p0_0]
    refine gB U.1.1.t1 ?_
    refine has_if U.1 ?_
    rw [if_neg q]
  · rintro h H k r rfl
    show R_falls 27 k h = _
    unfold R_falls
    refine gB H.t27 ?_
    congr 1
    funext u
    congr 1
    exact gB H.t27 rfl
  · intro h ls tp m q
    show R_falls 27 i h = _
    unfold R_falls
    refine gB m.1.t27 ?_
    refine rhas_if m ?_
    rw [if_neg q]
  · intro h hw dw ls k U hk rt
    have H := U.1.1
    have l60 := U.1.len
    refine gB H.t0 ?_
    refine gB H.t1 ?_
    have : Ledger_fallen 1 k h = some (flV ls k : Int) := by
      unfold Ledger_fallen
      refine gB H.t1 ?_
      rw [U.m, shl_1 (by omega), andL_not (b63 (rtN_s ls).1 (by omega)) (p2_63 (by omega)), w32_e (by omega)]
      exact fl_loop U (ls.length - (k + 1)) FU (k + 1) (clr (rtN ls) k) (by omega) (fu_big (by omega)) (clr_le (rtN_s ls).1)
    exact cB this rfl
  · intro h ls tp k m L hk rt
    have H := m.1
    have l60 := m.2.1.2.1
    have F1 : Fr DK h (hSet h 44 k 0) := Fr.set (Or.inl rfl)
    have ct : ∀ t, t < 64 → (clr (rtN ls) k).testBit t = ((rtN ls).testBit t && !decide (k = t)) := fun t ht => tb_cl ht
    have mk : (rtN ls).testBit k = true := ((rtN_s ls).2 k hk).trans rt
    obtain ⟨h', e', F'⟩ := rfl_loop (tp := tp) (ls.length - (k + 1)) FU (k + 1) (clr (rtN ls) k) (2 ^ k) (hSet h 44 k 0) (by omega) (fu_big (by omega)) (m.frQ F1 fun b x => DK.q) (fun t ht => by
      rw [ct t (by omega)]
      by_cases q : t = k
      · subst q; rw [cS, decide_eq_true rfl, Bool.not_true, Bool.and_false]; rfl
      · rw [cN (by omega), (L t ht).1, (rtN_s ls).2 t ht, decide_eq_false (fun z => q z.symm), Bool.not_false, Bool.and_true]) (clr_le (rtN_s ls).1) (Nat.pow_lt_pow_right (by omega) (by omega)) (fun t ht => by
      unfold clr at ht
      rw [Nat.testBit_and, Bool.and_eq_true] at ht
      exact ht.1) (fun t ht => by
      rw [Nat.testBit_two_pow, ct t (by omega)]
      by_cases q : k = t
      · subst q; rw [decide_eq_true rfl, mk]; rfl
      · rw [decide_eq_false q]
        cases (rtN ls).testBit t <;> rfl)
    refine ⟨h', ?_, F1.tr F'⟩
    refine gB H.t27 ?_
    rw [H.p27_19]
    refine gB ⟨Or.inr ⟨H.t44, by omega⟩, by omega, by rw [H.l44]; omega⟩ ?_
    rw [shl_1 (by omega), w32_e (by omega)]
    exact e'
