/-! settling lines -/
section SET
variable {h : AH} {hw dw : Nat} {ls : List LN}
/-- what the checks of line i on may change -/
def SK1 (i : Nat) (b j : Int) : Prop := (b = 1 ∧ j = 4) ∨ ((b = 3 ∨ b = 4 ∨ b = 5) ∧ j = (i : Int))
theorem CL.fr {P : Int → Int → Prop} {h' : AH} (C : CL h hw dw ls) (F : Fr P h h') (q : ∀ b j, P b j → (b = 1 ∧ j = 4) ∨ b = 3 ∨ b = 4 ∨ b = 5) : CL h' hw dw ls := by
  have n : ∀ b j, 6 ≤ b → ¬ P b j := fun b j hb z => by have := q b j z; omega
  have n2 : ∀ j, hCe h' 2 j = hCe h 2 j := fun j => F.2 _ _ fun z => by have := q _ _ z; omega
  refine ⟨C.1.fr F fun b j z => mutA (by have := q b j z; unfold MutA; omega), C.2.1.fr F (fun j z => by have := q _ _ z; omega) (fun j z => by have := q _ _ z; omega), C.2.2.1, (F.2 _ _ fun z => by have := q _ _ z; omega).trans C.sz, fun i hi => ?_⟩
  have p := C.pr hi
  rw [n2]
  refine ⟨(C.ln hi).fr F fun b j a1 a2 a3 => n b j (by omega), C.ok hi, ?_⟩
  unfold ltOK
  rw [F.2 _ _ (n _ _ (by omega))]
  exact C.lt hi
theorem SP.fr {P : Int → Int → Prop} {h' : AH} {k : Nat} (S : SP h ls k) (F : Fr P h h') (q : ∀ b (j : Nat), (b = 3 ∨ b = 4 ∨ b = 5) → j < k → ¬ P b j) : SP h' ls k := fun i hi => by
  rw [F.2 _ _ (q 3 i (by omega) hi), F.2 _ _ (q 4 i (by omega) hi), F.2 _ _ (q 5 i (by omega) hi)]
  exact S i hi
theorem sl_rows (C0 : CL h hw dw ls) {i m : Nat} (hi : i < ls.length) (S0 : SP h ls i) (hm : m < 9223372036854775808) (tb : ∀ k, k < i → m.testBit k = rtS ls k) (hr : ∀ r ∈ rows (gl ls i), 0 ≤ ahS ls (rtS ls) i r.1) : ∀ (n f j : Nat) (h1 : AH) (w : Nat) (d : Int), j + n = (rows (gl ls i)).length → n < f → Fr (SK1 i) h h1 → hCe h1 1 4 = (m : Int) → hCe h1 4 i = (w : Int) → w < 2 ^ 61 → hCe h1 5 i = d → 0 ≤ d → d ≤ 60 → ∃ h2, Ledger_settle_54 f 1 i (hCe h 2 i) j h1 = some h2 ∧ Fr (SK1 i) h h2 ∧ hCe h2 3 i = hCe h1 3 i ∧ hCe h2 4 i = ((fdR (fun a => reS ls a.toNat) (fun r => ahS ls (rtS ls) i r.1) w ((rows (gl ls i)).drop j) : Nat) : Int) ∧ hCe h2 5 i = fdD (fun a => deS ls a.toNat) (fun r => ahS ls (rtS ls) i r.1) d ((rows (gl ls i)).drop j) ∧ hCe h2 1 4 = ((m ||| 2 ^ i : Nat) : Int) := by
  have h60 := C0.len
  have L0 := C0.ln hi
  have r1 := L0.2.2.1.2.2.1
  have r2 := L0.2.2.2.2.2.1
  have rl : (rows (gl ls i)).length ≤ 18 := by unfold rows; rw [List.length_append]; omega
  have e0 : ∀ q, ahS ls (fun i => m.testBit i) i q = ahS ls (rtS ls) i q := fun q => ahS_g fun j hj => ⟨tb j hj, rfl⟩
  intro n
  induction n with
  | zero =>
    intro f j h1 w d hj hf F hm1 hw1 hw2 hd hd0 hd1
    obtain ⟨f, rfl, -⟩ := fu_pos hf
    have C := C0.fr F fun b j z => by unfold SK1 at z; omega
    have H := C.1
    have L := C.ln hi
    have p2 : hCe h1 2 i = hCe h 2 i := F.2 _ _ (by unfold SK1; omega)
    rw [p2] at L
    refine ⟨hSet h1 1 4 ((m ||| 2 ^ i : Nat) : Int), ?_, F.setT (Or.inl ⟨rfl, rfl⟩), cN (by omega), ?_, ?_, cS _ _ _ _⟩
    · unfold Ledger_settle_54
      refine gB L.1.t ?_
      refine cB (s_rowCount L) ?_
      refine ifF (by unfold rows at hj; omega) ?_
      refine gB H.t1 ?_
      refine gB H.t1 ?_
      rw [hm1, shl_1 (by omega), orL_n hm (p2_63 (by omega))]
    · rw [cN (by omega), hw1, dr_e (by omega)]; rfl
    · rw [cN (by omega), hd, dr_e (by omega)]; rfl
  | succ n ih =>
    intro f j h1 w d hj hf F hm1 hw1 hw2 hd hd0 hd1
    obtain ⟨f, rfl, hf⟩ := fu_pos hf
    have C := C0.fr F fun b j z => by unfold SK1 at z; omega
    have H := C.1
    have L := C.ln hi
    have p2 : hCe h1 2 i = hCe h 2 i := F.2 _ _ (by unfold SK1; omega)
    rw [p2] at L
    have hj' : j < ((gl ls i).2.1 ++ (gl ls i).2.2).length := by unfold rows at hj; omega
    have hrj := hr _ (gt_mem (show j < (rows (gl ls i)).length by omega))
    obtain ⟨k, hk, -, -, ek⟩ : ∃ k, k < i ∧ rtS ls k = true ∧ (gl ls k).1.1 = (gt (rows (gl ls i)) j).1 ∧ ahS ls (rtS ls) i (gt (rows (gl ls i)) j).1 = (k : Int) := by
      rcases ahS_c ls (rtS ls) (gt (rows (gl ls i)) j).1 i with z | z
      · omega
      · exact z
    have Sk := S0 k hk
    have c4 : hCe h1 4 k = (reS ls k : Int) := (F.2 _ _ (by unfold SK1; omega)).trans Sk.2.1
    have c5 : hCe h1 5 k = deS ls k := (F.2 _ _ (by unfold SK1; omega)).trans Sk.2.2
    have rb : reS ls k < 2 ^ 61 := Nat.lt_of_lt_of_le (re_bd ls k) (Nat.pow_le_pow_right (by omega) (by omega))
    have db := de_bd ls k
    have w2 : w ||| reS ls k < 2 ^ 61 := Nat.or_lt_two_pow hw2 rb
    obtain ⟨h2, e2, F2, g3, g4, g5, g1⟩ := ih f (j + 1) (hSet (hSet h1 4 i ((w ||| reS ls k : Nat) : Int)) 5 i (if d < deS ls k + 1 then deS ls k + 1 else d)) (w ||| reS ls k) (if d < deS ls k + 1 then deS ls k + 1 else d) (by omega) (by omega) ((F.setT (Or.inr ⟨by omega, rfl⟩)).setT (Or.inr ⟨by omega, rfl⟩)) (by rw [cN (by omega), cN (by omega)]; exact hm1) (by rw [cN (by omega), cS]) w2 (cS _ _ _ _) (by split <;> omega) (by split <;> omega)
    refine ⟨h2, ?_, F2, by rw [g3, cN (by omega), cN (by omega)], ?_, ?_, g1⟩
    · unfold Ledger_settle_54
      refine gB L.1.t ?_
      refine cB (s_rowCount L) ?_
      refine ifT (by omega) ?_
      refine gB H.t1 ?_
      refine gB L.1.t ?_
      refine cB (s_divisor L hj') ?_
      refine gB H.t1 ?_
      rw [hm1]
      refine cB (s_leastAhead C hm (by omega)) ?_
      have ek2 : ahS ls (fun i => m.testBit i) i (gt ((gl ls i).2.1 ++ (gl ls i).2.2) j).1 = (k : Int) := (e0 _).trans ek
      rw [ek2]
      refine ifF (by omega) ?_
      refine gB H.t1 ?_
      rw [H.p1_2]
      refine gB ⟨H.t4, by omega, by rw [H.l4]; omega⟩ ?_
      refine gB H.t1 ?_
      refine gB ⟨H.t4, by omega, by rw [H.l4]; omega⟩ ?_
      refine gB ⟨H.t4, by omega, by rw [H.l4]; omega⟩ ?_
      rw [hw1, c4, orL_n (by omega) (by omega)]
      refine gB H.t1 ?_
      refine gB H.t1 ?_
      rw [cN (a := 4) (b := 1) (by omega), H.p1_3]
      refine gB ⟨H.t5, by omega, by show _ < hLn h1 5; rw [H.l5]; omega⟩ ?_
      refine gB H.t1 ?_
      refine gB ⟨H.t5, by omega, by show _ < hLn h1 5; rw [H.l5]; omega⟩ ?_
      rw [cN (a := 4) (b := 5) (by omega), cN (a := 4) (b := 5) (by omega), hd, c5, w32_e (z := deS ls k + 1) (by omega)]
      refine cB s_max ?_
      refine gB ⟨H.t5, by omega, by show _ < hLn h1 5; rw [H.l5]; omega⟩ ?_
      rw [w32_e (by omega)]
      exact e2
    · rw [g4, gt_dr (show j < (rows (gl ls i)).length by omega)]
      rw [fdR_k, ek, Int.toNat_natCast]
    · rw [g5, gt_dr (show j < (rows (gl ls i)).length by omega)]
      rw [fdD_k, ek, Int.toNat_natCast]
theorem s_settle (C : CL h hw dw ls) {i m : Nat} (hi : i < ls.length) (S : SP h ls i) (B : RB h ls i m ls.length) : ∃ h2, Ledger_settle 1 i (faT ls i) h = some h2 ∧ Fr (SK1 i) h h2 ∧ SP h2 ls (i + 1) ∧ ∃ m2, RB h2 ls (i + 1) m2 ls.length := by
  have H := C.1
  have h60 := C.len
  have hm : m < 9223372036854775808 := Nat.lt_of_lt_of_le B.2.1 (Nat.pow_le_pow_right (by omega) (show ls.length ≤ 63 by omega))
  have hi2 : 2 ^ i < 9223372036854775808 := p2_63 (by omega)
  let m1 : Nat := m &&& (2 ^ i ^^^ 18446744073709551615)
  have m1b : m1 < 2 ^ ls.length := Nat.lt_of_le_of_lt Nat.and_le_left B.2.1
  let h1 : AH := hSet (hSet (hSet (hSet h 3 i (faT ls i)) 4 i ((2 ^ i : Nat) : Int)) 5 i 0) 1 4 (m1 : Int)
  have F1 : Fr (SK1 i) h h1 := Fr.setT (Fr.setT (Fr.setT (Fr.set (Or.inr ⟨by omega, rfl⟩)) (Or.inr ⟨by omega, rfl⟩)) (Or.inr ⟨by omega, rfl⟩)) (Or.inl ⟨rfl, rfl⟩)
  have a3 : hCe h1 3 i = faT ls i := by
    show hCe (hSet (hSet (hSet (hSet h 3 i (faT ls i)) 4 i ((2 ^ i : Nat) : Int)) 5 i 0) 1 4 (m1 : Int)) 3 i = _
    rw [cN (by omega), cN (by omega), cN (by omega), cS]
  have a4 : hCe h1 4 i = ((2 ^ i : Nat) : Int) := by
    show hCe (hSet (hSet (hSet (hSet h 3 i (faT ls i)) 4 i ((2 ^ i : Nat) : Int)) 5 i 0) 1 4 (m1 : Int)) 4 i = _
    rw [cN (by omega), cN (by omega), cS]
  have a5 : hCe h1 5 i = 0 := by
    show hCe (hSet (hSet (hSet (hSet h 3 i (faT ls i)) 4 i ((2 ^ i : Nat) : Int)) 5 i 0) 1 4 (m1 : Int)) 5 i = _
    rw [cN (by omega), cS]
  have a1 : hCe h1 1 4 = (m1 : Int) := cS _ _ _ _
  have tb1 : ∀ k, k < i → m1.testBit k = rtS ls k := fun k hk => by
    show (m &&& (2 ^ i ^^^ 18446744073709551615)).testBit k = _
    rw [tb_cl (by omega), B.2.2 k hk, decide_eq_false (by omega)]
    cases rtS ls k <;> rfl
  have st : Ledger_settle 1 i (faT ls i) h = if faT ls i = 0 then Ledger_settle_54 FU 1 i (hCe h 2 i) 0 h1 else some h1 := by
    unfold Ledger_settle
    refine gB H.t1 ?_
    rw [H.p1_0]
    refine gB ⟨H.t2, by omega, by rw [H.l2]; omega⟩ ?_
    refine gB H.t1 ?_
    rw [H.p1_1]
    refine gB ⟨H.t3, by omega, by rw [H.l3]; omega⟩ ?_
    refine gB H.t1 ?_
    rw [cN (a := 3) (b := 1) (by omega), H.p1_2]
    refine gB ⟨H.t4, by omega, by show _ < hLn h 4; rw [H.l4]; omega⟩ ?_
    refine gB H.t1 ?_
    rw [cN (a := 4) (b := 1) (by omega), cN (a := 3) (b := 1) (by omega), H.p1_3]
    refine gB ⟨H.t5, by omega, by show _ < hLn h 5; rw [H.l5]; omega⟩ ?_
    refine gB H.t1 ?_
    refine gB H.t1 ?_
    rw [cN (a := 5) (b := 1) (by omega), cN (a := 4) (b := 1) (by omega), cN (a := 3) (b := 1) (by omega), B.1, shl_1 (by omega), andL_not hm hi2]
  have sp : ∀ {h2}, Fr (SK1 i) h h2 → hCe h2 3 i = faT ls i → hCe h2 4 i = (reS ls i : Int) → hCe h2 5 i = deS ls i → SP h2 ls (i + 1) := by
    intro h2 F b3 b4 b5 k hk
    by_cases q : k = i
    · subst q; exact ⟨b3, b4, b5⟩
    · exact (S.fr F (fun b j x y z => by unfold SK1 at z; omega)) k (by omega)
  by_cases q : faT ls i = 0
  · have rt := rt_1.mpr q
    have L0 := C.ln hi
    have r1 := L0.2.2.1.2.2.1
    have r2 := L0.2.2.2.2.2.1
    have rl : (rows (gl ls i)).length ≤ 18 := by unfold rows; rw [List.length_append]; omega
    obtain ⟨h2, e2, F2, g3, g4, g5, g1⟩ := sl_rows C hi S (m := m1) (Nat.lt_of_le_of_lt Nat.and_le_left hm) tb1 (fun r hr => rt_ah rt hr) (rows (gl ls i)).length FU 0 h1 (2 ^ i) 0 (by omega) (fu_big (by omega)) F1 a1 a4 (Nat.pow_lt_pow_right (by omega) (by omega)) a5 (by omega) (by omega)
    rw [List.drop_zero] at g4 g5
    refine ⟨h2, by rw [st, if_pos q]; exact e2, F2, sp F2 (by rw [g3, a3]) (by rw [g4, re_e, if_pos rt]) (by rw [g5, de_e, if_pos rt]), m1 ||| 2 ^ i, g1, Nat.or_lt_two_pow m1b (Nat.pow_lt_pow_right (by omega) hi), fun k hk => ?_⟩
    rw [tb_or]
    by_cases z : k = i
    · subst z
      rw [decide_eq_true rfl, rt]
      cases m1.testBit k <;> rfl
    · rw [tb1 k (by omega), decide_eq_false (by omega)]
      cases rtS ls k <;> rfl
  · refine ⟨h1, by rw [st, if_neg q], F1, sp F1 a3 (by rw [a4, re_e, if_neg (fun z => q (rt_1.mp z))]) (by rw [a5, de_e, if_neg (fun z => q (rt_1.mp z))]), m1, a1, m1b, fun k hk => ?_⟩
    by_cases z : k = i
    · subst z
      rw [show m1.testBit k = _ from tb_cl (by omega), decide_eq_true rfl, rt_fa, decide_eq_false q]
      cases m.testBit k <;> rfl
    · exact tb1 k (by omega)
/-- what the checks may change -/
def CK (b j : Int) : Prop := (b = 1 ∧ j = 4) ∨ b = 3 ∨ b = 4 ∨ b = 5 ∨ (52 ≤ b ∧ (b - 52) % 5 = 0 ∧ j = 6)
theorem s_cf (hM : MRok) : ∀ (n f : Nat) (h : AH) (i m : Nat), i + n = ls.length → n < f → CL h hw dw ls → SP h ls i → RB h ls i m ls.length → ∃ h2, Ledger_checkFrom_6 f 1 i h = some h2 ∧ Fr CK h h2 ∧ FUL h2 hw dw ls := by
  intro n
  induction n with
  | zero =>
    intro f h i m hi hf C S B
    obtain ⟨f, rfl, -⟩ := fu_pos hf
    have H := C.1
    have : i = ls.length := by omega
    subst this
    refine ⟨h, ?_, Fr.rf, C, S, m, B⟩
    unfold Ledger_checkFrom_6
    refine gB H.t1 ?_
    rw [C.sz]
    exact ifF (by omega) rfl
  | succ n ih =>
    intro f h i m hi hf C S B
    obtain ⟨f, rfl, hf⟩ := fu_pos hf
    have H := C.1
    have h60 := C.len
    have hi' : i < ls.length := by omega
    have p := C.pr hi'
    obtain ⟨h1, e1, F1, C1⟩ := s_faultOf hM C hi' B
    have S1 : SP h1 ls i := S.fr F1 fun b j x y z => by omega
    have B1 : RB h1 ls i m ls.length := ⟨(F1.2 _ _ (by omega)).trans B.1, B.2⟩
    obtain ⟨h2, e2, F2, S2, m2, B2⟩ := s_settle C1 hi' S1 B1
    have C2 := C1.fr F2 fun b j z => by unfold SK1 at z; omega
    obtain ⟨h3, e3, F3, R⟩ := ih f h2 (i + 1) m2 (by omega) (by omega) C2 S2 B2
    refine ⟨h3, ?_, (F1.mo fun b j z => by unfold CK; omega).tr ((F2.mo fun b j z => by unfold SK1 at z; unfold CK; omega).tr F3), R⟩
    unfold Ledger_checkFrom_6
    refine gB H.t1 ?_
    rw [C.sz]
    refine ifT (by omega) ?_
    refine gB H.t1 ?_
    refine cB (s_hasN C hi') ?_
    refine ifF (by omega) ?_
    refine gB H.t1 ?_
    refine cB e1 ?_
    refine gB C1.1.t1 ?_
    refine cB e2 ?_
    rw [w32_e (by omega)]
    exact e3
theorem s_checkFrom (hM : MRok) (C : CL h hw dw ls) {i m : Nat} (hi : i ≤ ls.length) (S : SP h ls i) (B : RB h ls i m ls.length) : ∃ h2, Ledger_checkFrom 1 i h = some h2 ∧ Fr CK h h2 ∧ FUL h2 hw dw ls := by
  have h60 := C.len
  obtain ⟨h2, e, F, R⟩ := s_cf hM (ls.length - i) FU h i m (by omega) (fu_big (by omega)) C S B
  refine ⟨h2, ?_, F, R⟩
  unfold Ledger_checkFrom
  refine cB s_max ?_
  rw [show (if (i : Int) < 0 then (0 : Int) else i) = i from if_neg (by omega)]
  exact e
/-- a line is another one: the ledger is checked from it on -/
theorem gl_set {l : LN} {i j : Nat} (hi : i < ls.length) : gl (ls.set i l) j = if j = i then l else gl ls j := by
  unfold gl
  rw [List.getD_eq_getElem?_getD, List.getD_eq_getElem?_getD, List.getElem?_set]
  by_cases q : i = j
  · subst q; rw [if_pos rfl, if_pos hi, if_pos rfl]; rfl
  · rw [if_neg q, if_neg (fun z => q z.symm)]
theorem SP.g {ls' : List LN} {k : Nat} (S : SP h ls k) (g : ∀ i, i < k → gl ls i = gl ls' i) : SP h ls' k := fun i hi => by
  have := S i hi
  rw [fa_g g hi, re_g g i hi, de_g g i hi] at this
  exact this
theorem SP.le {k k' : Nat} (S : SP h ls k) (q : k' ≤ k) : SP h ls k' := fun i hi => S i (by omega)
theorem RB.g {ls' : List LN} {k m n : Nat} (B : RB h ls k m n) (g : ∀ i, i < k → gl ls i = gl ls' i) : RB h ls' k m n := ⟨B.1, B.2.1, fun i hi => by rw [B.2.2 i hi, rt_g k g i hi]⟩
theorem RB.le {k k' m n n' : Nat} (B : RB h ls k m n) (q : k' ≤ k) (q2 : n ≤ n') : RB h ls k' m n' := ⟨B.1, Nat.lt_of_lt_of_le B.2.1 (Nat.pow_le_pow_right (by omega) q2), fun i hi => B.2.2 i (by omega)⟩
theorem s_changed (hM : MRok) {h1 : AH} (U : FUL h hw dw ls) {i : Nat} (hi : i < ls.length) {l : LN} (ok : okL l) (F : Fr (LK (hCe h 2 i)) h h1) (L : LD h1 (hCe h 2 i) l) (t : ltOK h1 (hCe h 2 i) l) : ∃ h2, Ledger_checkFrom 1 i h1 = some h2 ∧ Fr CK h1 h2 ∧ FUL h2 hw dw (ls.set i l) := by
  obtain ⟨C, S, m, B⟩ := U
  have p := C.pr hi
  have far : ∀ b j, b < 52 → ¬ LK (hCe h 2 i) b j := fun b j hb z => by unfold LK SK at z; omega
  have g : ∀ k, k < i → gl ls k = gl (ls.set i l) k := fun k hk => by rw [gl_set hi, if_neg (by omega)]
  have C1 : CL h1 hw dw (ls.set i l) := by
    have n2 : ∀ j, hCe h1 2 j = hCe h 2 j := fun j => F.2 _ _ (far _ _ (by omega))
    refine ⟨C.1.fr F fun b j z => mutL (by unfold LK SK at z; unfold MutL; omega), C.2.1.fr F (fun j => far _ _ (by omega)) (fun j => far _ _ (by omega)), by rw [List.length_set]; exact C.2.2.1, by rw [List.length_set, F.2 _ _ (far _ _ (by omega))]; exact C.sz, fun k hk => ?_⟩
    rw [List.length_set] at hk
    rw [n2, gl_set hi]
    by_cases q : k = i
    · subst q; rw [if_pos rfl]; exact ⟨L, ok, t⟩
    · rw [if_neg q]
      have pk := C.pr hk
      have ne := C.ne hk hi q
      have nk : ∀ b j, hCe h 2 k ≤ b → b ≤ hCe h 2 k + 4 → ¬ LK (hCe h 2 i) b j := fun b j x y z => by unfold LK SK at z; omega
      refine ⟨(C.ln hk).fr F fun b j x y _ => nk b j x y, C.ok hk, ?_⟩
      unfold ltOK
      rw [F.2 _ _ (nk _ _ (by omega) (by omega))]
      exact C.lt hk
  refine s_checkFrom hM C1 (by rw [List.length_set]; omega) (m := m) (((S.le (by omega)).fr F fun b j x y z => by unfold LK SK at z; omega).g g) ?_
  rw [List.length_set]
  exact RB.g ⟨(F.2 _ _ (far _ _ (by omega))).trans B.1, B.2.1, fun k hk => B.2.2 k (by omega)⟩ g
end SET
