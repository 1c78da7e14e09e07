/-! what rests on what: rests, shared -/
theorem fdR_bit {f : Int → Nat} {a : RW → Int} {t : Nat} : ∀ {l : List RW} {w : Nat}, (fdR f a w l).testBit t = true ↔ w.testBit t = true ∨ ∃ r ∈ l, (f (a r)).testBit t = true
  | [], w => ⟨fun h => Or.inl h, fun h => h.elim id fun ⟨r, hr, _⟩ => absurd hr List.not_mem_nil⟩
  | r :: l, w => by
    rw [fdR_k, fdR_bit, Nat.testBit_or, Bool.or_eq_true]
    refine ⟨fun h => ?_, fun h => ?_⟩
    · rcases h with (h | h) | ⟨s, hs, h⟩
      · exact Or.inl h
      · exact Or.inr ⟨r, List.mem_cons_self, h⟩
      · exact Or.inr ⟨s, List.mem_cons_of_mem r hs, h⟩
    · rcases h with h | ⟨s, hs, h⟩
      · exact Or.inl (Or.inl h)
      · rcases List.mem_cons.mp hs with rfl | hs
        · exact Or.inl (Or.inr h)
        · exact Or.inr ⟨s, hs, h⟩
/-- the line that a row of a right line rests on -/
theorem rts_row {ls : List LN} {i : Nat} (h : rtS ls i = true) : ∀ r ∈ rows (gl ls i), ∃ a : Nat, ahS ls (rtS ls) i r.1 = (a : Int) ∧ a < i ∧ rtS ls a = true := by
  intro r hr
  have f : faT ls i = 0 := by rw [rt_fa] at h; exact of_decide_eq_true h
  have st : stS ls (rtS ls) i = true := by
    unfold faT faS at f
    by_cases q : f1S (gl ls i) = true
    · rw [if_pos q] at f; omega
    · rw [if_neg q] at f
      by_cases q2 : pB (rpP (gl ls i).2.1) = 1 ∨ pB (rpP (gl ls i).2.2) = 1 ∨ stS ls (rtS ls) i = false
      · rw [if_pos q2] at f; omega
      · cases e : stS ls (rtS ls) i with
        | true => rfl
        | false => exact absurd (Or.inr (Or.inr e)) q2
  have p : 0 ≤ ahS ls (rtS ls) i r.1 := of_decide_eq_true (List.all_eq_true.mp st r hr)
  rcases ahF_c ls (rtS ls) r.1 i 0 with z | ⟨a, a1, a2, a3, a4, a5⟩
  · unfold ahS at p; omega
  · exact ⟨a, a5, by omega, a3⟩
theorem re_bit {ls : List LN} {i t : Nat} (h : rtS ls i = true) : (reS ls i).testBit t = true ↔ t = i ∨ ∃ r ∈ rows (gl ls i), (reS ls (ahS ls (rtS ls) i r.1).toNat).testBit t = true := by
  rw [re_e, if_pos h, fdR_bit, Nat.testBit_two_pow, decide_eq_true_iff]
  exact ⟨fun z => z.imp Eq.symm id, fun z => z.imp Eq.symm id⟩
/-- what a line rests on at once -/
noncomputable def prW (ls : List LN) (i : Nat) : Nat := fdR (fun a => 2 ^ a.toNat) (fun r => ahS ls (rtS ls) i r.1) 0 (rows (gl ls i))
theorem pr_bit {ls : List LN} {i t : Nat} : (prW ls i).testBit t = true ↔ ∃ r ∈ rows (gl ls i), (ahS ls (rtS ls) i r.1).toNat = t := by
  unfold prW
  rw [fdR_bit]
  refine ⟨fun z => ?_, fun ⟨r, hr, z⟩ => Or.inr ⟨r, hr, ?_⟩⟩
  · rcases z with z | ⟨r, hr, z⟩
    · rw [Nat.zero_testBit] at z; cases z
    · exact ⟨r, hr, by rw [Nat.testBit_two_pow] at z; exact of_decide_eq_true z⟩
  · rw [Nat.testBit_two_pow]; exact decide_eq_true z
theorem fdR_lt {f : Int → Nat} {a : RW → Int} {k : Nat} : ∀ {l : List RW} {w : Nat}, w < 2 ^ k → (∀ r ∈ l, f (a r) < 2 ^ k) → fdR f a w l < 2 ^ k
  | [], w, h, _ => h
  | r :: l, w, h, c => by
    rw [fdR_k]
    exact fdR_lt (Nat.or_lt_two_pow h (c r List.mem_cons_self)) fun s hs => c s (List.mem_cons_of_mem r hs)
theorem pr_lt {ls : List LN} {i : Nat} (h : rtS ls i = true) : prW ls i < 2 ^ i := by
  refine fdR_lt (Nat.two_pow_pos i) fun r hr => ?_
  obtain ⟨a, e, l, -⟩ := rts_row h r hr
  rw [e, Int.toNat_natCast]
  exact Nat.pow_lt_pow_right (by omega) l
theorem b63 {w k : Nat} (h : w < 2 ^ k) (hk : k ≤ 60) : w < 9223372036854775808 := Nat.lt_of_lt_of_le h (Nat.pow_le_pow_right (n := 2) (by omega) (show k ≤ 63 by omega))
section PRP
variable {h : AH} {ls : List LN} {tp : List Int}
theorem LR.lf (m : MS h ls tp) (L : LR h ls ls.length) {k : Nat} (hk : k < ls.length) (q : Int) : R_lineFor 27 q k h = some (ahS ls (rtS ls) k q) := by
  have l60 := m.2.1.2.1
  rw [s_lineFor m.1 (by omega) (fun j hj => m.2.1.num (by omega)), ahS_g (ls' := ls) (R' := rtS ls) fun i hi => ⟨L.rr i (by omega), rfl⟩]
theorem pp_u (m : MS h ls tp) (L : LR h ls ls.length) {k : Nat} (hk : k < ls.length) (rt : rtS ls k = true) : ∀ (n f i w : Nat), i + n = (gl ls k).2.2.length → n < f → w < 2 ^ k → R_props_53 f 27 k w ((9 * k + i : Nat) : Int) h = some ((fdR (fun a => 2 ^ a.toNat) (fun r => ahS ls (rtS ls) k r.1) w ((gl ls k).2.2.drop i) : Nat) : Int) := by
  have H := m.1
  have l60 := m.2.1.2.1
  obtain ⟨-, -, u1, u9, u3⟩ := (m.2.1.2.2 k hk).1
  intro n
  induction n with
  | zero =>
    intro f i w hi hf hw
    obtain ⟨f, rfl, -⟩ := fu_pos hf
    unfold R_props_53
    refine gB H.t27 ?_
    rw [H.p27_13]
    refine gB ⟨H.t38, by omega, by rw [H.l38]; omega⟩ ?_
    rw [u1, w32_e (z := 9 * (k : Int)) (by omega), w32_e (z := 9 * (k : Int) + (gl ls k).2.2.length) (by omega), dr_e (by omega)]
    exact ifF (by omega) rfl
  | succ n ih =>
    intro f i w hi hf hw
    obtain ⟨f, rfl, hf⟩ := fu_pos hf
    have hi' : i < (gl ls k).2.2.length := by omega
    have c := (u3 i hi').1
    rw [show 9 * (k : Int) + i = ((9 * k + i : Nat) : Int) by omega] at c
    obtain ⟨a, ea, al, -⟩ := rts_row rt (gt (gl ls k).2.2 i) (List.mem_append_right _ (gt_mem hi'))
    have p2 : 2 ^ a < 2 ^ k := Nat.pow_lt_pow_right (by omega) al
    rw [gt_dr hi', fdR_k, ea, Int.toNat_natCast, ← ih f (i + 1) (w ||| 2 ^ a) (by omega) (by omega) (Nat.or_lt_two_pow hw p2)]
    conv => lhs; unfold R_props_53
    refine gB H.t27 ?_
    rw [H.p27_13]
    refine gB ⟨H.t38, by omega, by rw [H.l38]; omega⟩ ?_
    rw [u1, w32_e (z := 9 * (k : Int)) (by omega), w32_e (z := 9 * (k : Int) + (gl ls k).2.2.length) (by omega)]
    refine ifT (by omega) ?_
    refine gB H.t27 ?_
    rw [H.p27_17]
    refine gB ⟨H.t42, by omega, by rw [H.l42]; omega⟩ ?_
    rw [c]
    refine gB H.t27 ?_
    refine cB (L.lf m hk _) ?_
    rw [ea, shl_1 (by omega), orL_n (b63 hw (by omega)) (b63 p2 (by omega)), w32_e (by omega)]
    rfl
theorem pp_d (m : MS h ls tp) (L : LR h ls ls.length) {k : Nat} (hk : k < ls.length) (rt : rtS ls k = true) : ∀ (n f i w : Nat), i + n = (gl ls k).2.1.length → n < f → w < 2 ^ k → R_props_8 f 27 k w ((9 * k + i : Nat) : Int) h = some ((fdR (fun a => 2 ^ a.toNat) (fun r => ahS ls (rtS ls) k r.1) w ((gl ls k).2.1.drop i ++ (gl ls k).2.2) : Nat) : Int) := by
  have H := m.1
  have l60 := m.2.1.2.1
  obtain ⟨-, ⟨d1, d9, d3, -⟩, u1, u9, u3⟩ := (m.2.1.2.2 k hk).1
  intro n
  induction n with
  | zero =>
    intro f i w hi hf hw
    obtain ⟨f, rfl, -⟩ := fu_pos hf
    unfold R_props_8
    refine gB H.t27 ?_
    rw [H.p27_12]
    refine gB ⟨H.t37, by omega, by rw [H.l37]; omega⟩ ?_
    rw [d1, w32_e (z := 9 * (k : Int)) (by omega), w32_e (z := 9 * (k : Int) + (gl ls k).2.1.length) (by omega), dr_e (by omega)]
    refine ifF (by omega) ?_
    have := pp_u m L hk rt (gl ls k).2.2.length FU 0 w (by omega) (fu_big (by omega)) hw
    rw [show 9 * (k : Int) = ((9 * k + 0 : Nat) : Int) by omega, this, List.drop_zero]
    rfl
  | succ n ih =>
    intro f i w hi hf hw
    obtain ⟨f, rfl, hf⟩ := fu_pos hf
    have hi' : i < (gl ls k).2.1.length := by omega
    have c := (d3 i hi').1
    rw [show 9 * (k : Int) + i = ((9 * k + i : Nat) : Int) by omega] at c
    obtain ⟨a, ea, al, -⟩ := rts_row rt (gt (gl ls k).2.1 i) (List.mem_append_left _ (gt_mem hi'))
    have p2 : 2 ^ a < 2 ^ k := Nat.pow_lt_pow_right (by omega) al
    rw [gt_dr hi', List.cons_append, fdR_k, ea, Int.toNat_natCast, ← ih f (i + 1) (w ||| 2 ^ a) (by omega) (by omega) (Nat.or_lt_two_pow hw p2)]
    conv => lhs; unfold R_props_8
    refine gB H.t27 ?_
    rw [H.p27_12]
    refine gB ⟨H.t37, by omega, by rw [H.l37]; omega⟩ ?_
    rw [d1, w32_e (z := 9 * (k : Int)) (by omega), w32_e (z := 9 * (k : Int) + (gl ls k).2.1.length) (by omega)]
    refine ifT (by omega) ?_
    refine gB H.t27 ?_
    rw [H.p27_14]
    refine gB ⟨H.t39, by omega, by rw [H.l39]; omega⟩ ?_
    rw [c]
    refine gB H.t27 ?_
    refine cB (L.lf m hk _) ?_
    rw [ea, shl_1 (by omega), orL_n (b63 hw (by omega)) (b63 p2 (by omega)), w32_e (by omega)]
    rfl
theorem s_props (m : MS h ls tp) (L : LR h ls ls.length) {k : Nat} (hk : k < ls.length) (rt : rtS ls k = true) : R_props 27 k h = some ((prW ls k : Nat) : Int) := by
  have l60 := m.2.1.2.1
  have d9 := (m.2.1.2.2 k hk).1.2.1.2.1
  unfold R_props
  have := pp_d m L hk rt (gl ls k).2.1.length FU 0 0 (by omega) (fu_big (by omega)) (Nat.two_pow_pos k)
  rw [w32_e (by omega), show 9 * (k : Int) = ((9 * k + 0 : Nat) : Int) by omega]
  rw [List.drop_zero] at this
  exact this
/-- a word on the way from a line down -/
def wOK (ls : List LN) (i : Nat) (j : Nat) (w : Nat) : Prop := w < 2 ^ (i + 1) ∧ w.testBit i = true ∧ (∀ t, w.testBit t = true → rtS ls t = true ∧ (reS ls i).testBit t = true) ∧ ∀ t, j ≤ t → w.testBit t = true → ∀ r ∈ rows (gl ls t), w.testBit (ahS ls (rtS ls) t r.1).toNat = true
theorem re_self {ls : List LN} {i : Nat} : (reS ls i).testBit i = true := by
  rw [re_e]
  by_cases q : rtS ls i = true
  · rw [if_pos q, fdR_bit]
    exact Or.inl (by rw [Nat.testBit_two_pow]; exact decide_eq_true rfl)
  · rw [if_neg q, Nat.testBit_two_pow]; exact decide_eq_true rfl
/-- what rests is transitive -/
theorem re_tr {ls : List LN} {i : Nat} (hi : rtS ls i = true) : ∀ t, (reS ls i).testBit t = true → rtS ls t = true ∧ ∀ r ∈ rows (gl ls t), (reS ls i).testBit (ahS ls (rtS ls) t r.1).toNat = true := by
  induction i using Nat.strongRecOn with
  | ind i ih =>
    intro t ht
    rcases (re_bit hi).mp ht with rfl | ⟨r, hr, z⟩
    · exact ⟨hi, fun s hs => (re_bit hi).mpr (Or.inr ⟨s, hs, re_self⟩)⟩
    · obtain ⟨a, ea, al, ar⟩ := rts_row hi r hr
      rw [ea, Int.toNat_natCast] at z
      obtain ⟨t1, t2⟩ := ih a al ar t z
      exact ⟨t1, fun s hs => (re_bit hi).mpr (Or.inr ⟨r, hr, by rw [ea, Int.toNat_natCast]; exact t2 s hs⟩)⟩
theorem re_min {ls : List LN} {w : Nat} (c : ∀ t, w.testBit t = true → rtS ls t = true ∧ ∀ r ∈ rows (gl ls t), w.testBit (ahS ls (rtS ls) t r.1).toNat = true) : ∀ i, w.testBit i = true → ∀ t, (reS ls i).testBit t = true → w.testBit t = true := by
  intro i
  induction i using Nat.strongRecOn with
  | ind i ih =>
    intro hi t ht
    rcases (re_bit (c i hi).1).mp ht with rfl | ⟨r, hr, z⟩
    · exact hi
    · obtain ⟨a, ea, al, ar⟩ := rts_row (c i hi).1 r hr
      have := (c i hi).2 r hr
      rw [ea, Int.toNat_natCast] at z this
      exact ih a al this t z
theorem w_end {ls : List LN} {i w : Nat} (W : wOK ls i 0 w) : w = reS ls i := by
  refine bit_eq W.1 (re_bd ls i) fun t _ => ?_
  have c := re_min (w := w) (fun t ht => ⟨(W.2.2.1 t ht).1, W.2.2.2 t (Nat.zero_le _) ht⟩) i W.2.1 t
  cases e : w.testBit t with
  | true => exact ((W.2.2.1 t e).2).symm
  | false =>
    cases e2 : (reS ls i).testBit t with
    | true => rw [c e2] at e; cases e
    | false => rfl
theorem w_step {ls : List LN} {i j w : Nat} (hi : rtS ls i = true) (W : wOK ls i (j + 1) w) (hj : j ≤ i) (b : w.testBit j = true) : wOK ls i j (w ||| prW ls j) := by
  obtain ⟨w1, w2, w3, w4⟩ := W
  have rj := (w3 j b).1
  have pl : prW ls j < 2 ^ (i + 1) := Nat.lt_of_lt_of_le (pr_lt rj) (Nat.pow_le_pow_right (by omega) (by omega))
  refine ⟨Nat.or_lt_two_pow w1 pl, by rw [Nat.testBit_or, w2, Bool.true_or], fun t ht => ?_, fun t jt ht r hr => ?_⟩
  · rw [Nat.testBit_or, Bool.or_eq_true] at ht
    rcases ht with ht | ht
    · exact w3 t ht
    · obtain ⟨r, hr, e⟩ := pr_bit.mp ht
      obtain ⟨a, ea, al, ar⟩ := rts_row rj r hr
      have := (re_tr hi j (w3 j b).2).2 r hr
      rw [ea, Int.toNat_natCast] at e this
      subst e
      exact ⟨ar, this⟩
  · rw [Nat.testBit_or, Bool.or_eq_true] at ht ⊢
    by_cases q : t = j
    · subst q
      exact Or.inr (pr_bit.mpr ⟨r, hr, rfl⟩)
    · refine Or.inl (w4 t (by omega) ?_ r hr)
      rcases ht with ht | ht
      · exact ht
      · rw [Nat.testBit_lt_two_pow (Nat.lt_of_lt_of_le (pr_lt rj) (Nat.pow_le_pow_right (by omega) jt))] at ht
        cases ht
theorem ro_loop (m : MS h ls tp) (L : LR h ls ls.length) {i : Nat} (hi : i < ls.length) (rt : rtS ls i = true) : ∀ (n f w : Nat), n ≤ i + 1 → n < f → wOK ls i n w → R_restsOf_7 f 27 w ((n : Int) - 1) h = some ((reS ls i : Nat) : Int) := by
  have H := m.1
  have l60 := m.2.1.2.1
  intro n
  induction n with
  | zero =>
    intro f w hn hf W
    obtain ⟨f, rfl, -⟩ := fu_pos hf
    unfold R_restsOf_7
    refine (ifT (by omega) rfl).trans ?_
    rw [w_end W]
  | succ n ih =>
    intro f w hn hf W
    obtain ⟨f, rfl, hf⟩ := fu_pos hf
    unfold R_restsOf_7
    refine ifF (by omega) ?_
    rw [show ((n + 1 : Nat) : Int) - 1 = (n : Int) by omega]
    have w63 : w < 9223372036854775808 := b63 W.1 (by omega)
    refine cB (Rhas_n w63 (by omega)) ?_
    rw [w32_e (z := (n : Int) + -1) (by omega), show (n : Int) + -1 = (n : Int) - 1 by omega]
    cases b : w.testBit n with
    | false =>
      refine ifT rfl ?_
      refine ih f w (by omega) (by omega) ⟨W.1, W.2.1, W.2.2.1, fun t ht bt => ?_⟩
      by_cases q : t = n
      · subst q; rw [b] at bt; cases bt
      · exact W.2.2.2 t (by omega) bt
    | true =>
      refine ifF one_ne ?_
      refine gB H.t27 ?_
      have rn := (W.2.2.1 n b).1
      refine cB (s_props m L (by omega) rn) ?_
      rw [orL_n w63 (b63 (pr_lt rn) (by omega))]
      exact ih f _ (by omega) (by omega) (w_step rt W (by omega) b)
theorem s_restsOf (m : MS h ls tp) (L : LR h ls ls.length) {i : Nat} (hi : i < ls.length) (rt : rtS ls i = true) : R_restsOf 27 i h = some ((reS ls i : Nat) : Int) := by
  have l60 := m.2.1.2.1
  unfold R_restsOf
  rw [shl_1 (by omega)]
  have := ro_loop m L hi rt (i + 1) FU (2 ^ i) (Nat.le_refl _) (fu_big (by omega)) ⟨Nat.pow_lt_pow_right (by omega) (by omega), by rw [Nat.testBit_two_pow]; exact decide_eq_true rfl, fun t ht => by
    rw [Nat.testBit_two_pow] at ht
    have : i = t := of_decide_eq_true ht
    subst this
    exact ⟨rt, re_self⟩, fun t it ht => by
    rw [Nat.testBit_two_pow] at ht
    have : i = t := of_decide_eq_true ht
    omega⟩
  rw [show ((i + 1 : Nat) : Int) - 1 = (i : Int) by omega] at this
  exact this
end PRP
theorem q_rests (i : Int) : sim (fun h => lft (X_rests 0 i h) h) (fun h => R_rests 27 i h) := by
  refine q_ask (X := fun i h => X_rests 0 i h) (R := fun i h => R_rests 27 i h) (Bx := fun k h => (gd (hTy h 0 = 9) 1).bind fun u5 => (gd (hTy h u5 = 3) (hCe h u5 2)).bind fun u6 => (gd (hTy h u6 = 22 ∧ 0 ≤ (k : Int) ∧ (k : Int) < hLn h u6) (hCe h u6 k)).bind fun u7 => some u7) (Br := fun k h => (gd (hTy h 27 = 10) 0).bind fun _ => (R_restsOf 27 k h).bind fun u3 => some (u3, h)) (fun ls k => ((reS ls k : Nat) : Int)) ?_ ?_ ?_ ?_ ?_ ?_
  · rintro h H k r rfl
    show X_rests 0 k h = _
    unfold X_rests
    refine gB H.t0 ?_
    rw [H.p0_0]
    refine gB H.t1 ?_
    congr 1
    funext u
    congr 1
    refine gB H.t0 ?_
    exact gB H.t1 rfl
  · intro h hw dw ls U q
    show X_rests 0 i h = _
    unfold X_rests
    refine gB U.1.1.t0 ?_
    rw [U.1.1.p0_0]
    refine gB U.1.1.t1 ?_
    refine has_if U.1 ?_
    rw [if_neg q]
  · rintro h H k r rfl
    show R_rests 27 k h = _
    unfold R_rests
    refine gB H.t27 ?_
    congr 1
    funext u
    congr 1
    exact gB H.t27 rfl
  · intro h ls tp m q
    show R_rests 27 i h = _
    unfold R_rests
    refine gB m.1.t27 ?_
    refine rhas_if m ?_
    rw [if_neg q]
  · intro h hw dw ls k U hk rt
    have H := U.1.1
    have l60 := U.1.len
    refine gB H.t0 ?_
    refine gB H.t1 ?_
    rw [H.p1_2]
    refine gB ⟨H.t4, by omega, by rw [H.l4]; omega⟩ ?_
    rw [(U.2.1 k hk).2.1]
  · intro h ls tp k m L hk rt
    refine gB m.1.t27 ?_
    exact cB (s_restsOf m L hk rt) rfl
theorem q_shared (i j : Int) : sim (fun h => lft (X_shared 0 i j h) h) (fun h => R_shared 27 i j h) := mk_sim fun ls tp ok => by
  have l60 := ok.1
  by_cases q : 0 ≤ i ∧ i < ls.length
  · by_cases q' : 0 ≤ j ∧ j < ls.length
    · obtain ⟨k, rfl⟩ := Int.eq_ofNat_of_zero_le q.1
      obtain ⟨n, rfl⟩ := Int.eq_ofNat_of_zero_le q'.1
      have hk : k < ls.length := by omega
      have hn : n < ls.length := by omega
      refine ⟨if rtS ls k = true then (if rtS ls n = true then andL (reS ls k : Int) (reS ls n : Int) else -2) else -2, ls, tp, xC.keep fun h hw dw U t => lft_s ?_, rC.lay fun h h' m e m' L => ?_⟩
      · have H := U.1.1
        unfold X_shared
        refine gB H.t0 ?_
        rw [H.p0_0]
        refine gB H.t1 ?_
        refine has_if U.1 ?_
        rw [if_pos q]
        refine gB H.t0 ?_
        refine gB H.t1 ?_
        refine has_if U.1 ?_
        rw [if_pos q']
        refine gB H.t0 ?_
        refine gB H.t1 ?_
        refine rt_if U hk ?_
        by_cases z : rtS ls k = true
        · rw [if_pos z, if_pos z]
          refine gB H.t0 ?_
          refine gB H.t1 ?_
          refine rt_if U hn ?_
          by_cases y : rtS ls n = true
          · rw [if_pos y, if_pos y]
            refine gB H.t0 ?_
            refine gB H.t1 ?_
            rw [H.p1_2]
            refine gB ⟨H.t4, by omega, by rw [H.l4]; omega⟩ ?_
            refine gB H.t0 ?_
            refine gB H.t1 ?_
            rw [H.p1_2]
            refine gB ⟨H.t4, by omega, by rw [H.l4]; omega⟩ ?_
            rw [(U.2.1 k hk).2.1, (U.2.1 n hn).2.1]
          · rw [if_neg y, if_neg y]
        · rw [if_neg z, if_neg z]
      · have H' := m'.1
        show R_shared 27 k n h = _
        unfold R_shared
        refine gB m.1.t27 ?_
        refine rhas_if m ?_
        rw [if_pos q]
        refine gB m.1.t27 ?_
        refine rhas_if m ?_
        rw [if_pos q']
        refine gB m.1.t27 ?_
        refine cB e ?_
        refine gB H'.t27 ?_
        rw [H'.p27_19]
        refine gB ⟨Or.inr H'.t44, by omega, by rw [H'.l44]; omega⟩ ?_
        rw [(L k hk).1]
        by_cases z : rtS ls k = true
        · rw [z, if_pos rfl]
          refine ifF one_ne ?_
          refine gB H'.t27 ?_
          refine gB ⟨Or.inr H'.t44, by omega, by rw [H'.l44]; omega⟩ ?_
          rw [(L n hn).1]
          by_cases y : rtS ls n = true
          · rw [y, if_pos rfl]
            refine ifF one_ne ?_
            refine gB H'.t27 ?_
            refine cB (s_restsOf m' L hk z) ?_
            refine gB H'.t27 ?_
            exact cB (s_restsOf m' L hn y) rfl
          · rw [if_neg y, Bool.eq_false_iff.mpr y]
            exact ifT rfl rfl
        · rw [if_neg z, Bool.eq_false_iff.mpr z]
          exact ifT rfl rfl
    · refine ⟨-1, ls, tp, xC.keep fun h hw dw U t => lft_s ?_, rC.keep fun h m => ?_⟩
      · have H := U.1.1
        unfold X_shared
        refine gB H.t0 ?_
        rw [H.p0_0]
        refine gB H.t1 ?_
        refine has_if U.1 ?_
        rw [if_pos q]
        refine gB H.t0 ?_
        refine gB H.t1 ?_
        refine has_if U.1 ?_
        rw [if_neg q']
      · show R_shared 27 i j h = _
        unfold R_shared
        refine gB m.1.t27 ?_
        refine rhas_if m ?_
        rw [if_pos q]
        refine gB m.1.t27 ?_
        refine rhas_if m ?_
        rw [if_neg q']
  · refine ⟨-1, ls, tp, xC.keep fun h hw dw U t => lft_s ?_, rC.keep fun h m => ?_⟩
    · have H := U.1.1
      unfold X_shared
      refine gB H.t0 ?_
      rw [H.p0_0]
      refine gB H.t1 ?_
      refine has_if U.1 ?_
      rw [if_neg q]
    · show R_shared 27 i j h = _
      unfold R_shared
      refine gB m.1.t27 ?_
      refine rhas_if m ?_
      rw [if_neg q]
