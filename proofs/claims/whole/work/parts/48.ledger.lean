/-! the ledger of the class -/
def isBk (n : Nat) (a : Int) : Prop := ∃ b, b < n ∧ a = blkA b
def Own (h : AH) (hw dw : Nat) : Prop := hw ≤ 60 ∧ dw ≤ 40 ∧ hNx h = blkA (hw + dw) ∧ (∀ i : Nat, i < hw → isBk (hw + dw) (hCe h 2 i)) ∧ (∀ i : Nat, hw ≤ i → i < 60 → hCe h 2 i = -1) ∧ (∀ i : Nat, i < dw → isBk (hw + dw) (hCe h 13 i)) ∧ (∀ i : Nat, dw ≤ i → i < 40 → hCe h 13 i = -1) ∧ (∀ i j : Nat, i < hw → j < hw → hCe h 2 i = hCe h 2 j → i = j) ∧ (∀ i j : Nat, i < dw → j < dw → hCe h 13 i = hCe h 13 j → i = j) ∧ ∀ i j : Nat, i < hw → j < dw → hCe h 2 i ≠ hCe h 13 j
theorem Own.of {h h' : AH} {hw dw : Nat} (O : Own h hw dw) (n : hNx h' = hNx h) (c2 : ∀ j, hCe h' 2 j = hCe h 2 j) (c13 : ∀ j, hCe h' 13 j = hCe h 13 j) : Own h' hw dw := by
  unfold Own at *
  simp only [n, c2, c13]
  exact O
theorem Own.fr {P : Int → Int → Prop} {h h' : AH} {hw dw : Nat} (O : Own h hw dw) (F : Fr P h h') (q2 : ∀ j, ¬ P 2 j) (q13 : ∀ j, ¬ P 13 j) : Own h' hw dw := O.of F.1.nx (fun j => F.2 _ _ (q2 j)) fun j => F.2 _ _ (q13 j)
theorem isBk.r {n : Nat} {a : Int} (h : isBk n a) : 52 ≤ a ∧ (a - 52) % 5 = 0 := by
  obtain ⟨b, -, rfl⟩ := h
  unfold blkA
  omega
/-- the first of later faults, if it is known -/
def ltOK (h : AH) (a : Int) (l : LN) : Prop := hCe h a 6 = -1 ∨ hCe h a 6 = laS l
def LNs (h : AH) (ls : List LN) : Prop := hCe h 1 5 = (ls.length : Int) ∧ ∀ i : Nat, i < ls.length → LD h (hCe h 2 i) (gl ls i) ∧ okL (gl ls i) ∧ ltOK h (hCe h 2 i) (gl ls i)
def CL (h : AH) (hw dw : Nat) (ls : List LN) : Prop := Sh h ∧ Own h hw dw ∧ ls.length ≤ hw ∧ LNs h ls
/-- what is settled of the first k lines; the word of right ones -/
def SP (h : AH) (ls : List LN) (k : Nat) : Prop := ∀ i : Nat, i < k → hCe h 3 i = faT ls i ∧ hCe h 4 i = (reS ls i : Int) ∧ hCe h 5 i = deS ls i
def RB (h : AH) (ls : List LN) (k m n : Nat) : Prop := hCe h 1 4 = (m : Int) ∧ m < 2 ^ n ∧ ∀ i, i < k → m.testBit i = rtS ls i
def FUL (h : AH) (hw dw : Nat) (ls : List LN) : Prop := CL h hw dw ls ∧ SP h ls ls.length ∧ ∃ m, RB h ls ls.length m ls.length
section LED
variable {h : AH} {hw dw : Nat} {ls : List LN}
theorem CL.len (C : CL h hw dw ls) : ls.length ≤ 60 := by have := C.2.2.1; have := C.2.1.1; omega
theorem CL.sz (C : CL h hw dw ls) : hCe h 1 5 = (ls.length : Int) := C.2.2.2.1
theorem CL.ln (C : CL h hw dw ls) {i : Nat} (hi : i < ls.length) : LD h (hCe h 2 i) (gl ls i) := (C.2.2.2.2 i hi).1
theorem CL.ok (C : CL h hw dw ls) {i : Nat} (hi : i < ls.length) : okL (gl ls i) := (C.2.2.2.2 i hi).2.1
theorem CL.lt (C : CL h hw dw ls) {i : Nat} (hi : i < ls.length) : ltOK h (hCe h 2 i) (gl ls i) := (C.2.2.2.2 i hi).2.2
theorem CL.pr (C : CL h hw dw ls) {i : Nat} (hi : i < ls.length) : 52 ≤ hCe h 2 i ∧ (hCe h 2 i - 52) % 5 = 0 := (C.2.1.2.2.2.1 i (by have := C.2.2.1; omega)).r
theorem CL.ne (C : CL h hw dw ls) {i j : Nat} (hi : i < ls.length) (hj : j < ls.length) (q : i ≠ j) : hCe h 2 i ≠ hCe h 2 j := fun z => q (C.2.1.2.2.2.2.2.2.2.1 i j (by have := C.2.2.1; omega) (by have := C.2.2.1; omega) z)
theorem s_has (C : CL h hw dw ls) {i : Int} : Ledger_has 1 i h = some (b2i (decide (0 ≤ i ∧ i < ls.length))) := by
  have H := C.1
  have h60 := C.len
  unfold Ledger_has
  by_cases q : i < 0
  · refine ifT q ?_
    rw [decide_eq_false (by omega)]; rfl
  · refine ifF q ?_
    refine gB H.t1 ?_
    rw [C.sz]
    by_cases q2 : i < ls.length
    · refine ifT q2 ?_
      refine gB H.t1 ?_
      rw [H.p1_0]
      refine gB ⟨H.t2, by omega, by rw [H.l2]; omega⟩ ?_
      obtain ⟨j, rfl⟩ := Int.eq_ofNat_of_zero_le (show 0 ≤ i by omega)
      have := (C.pr (i := j) (by omega)).1
      refine ifF (by omega) ?_
      rw [decide_eq_true ⟨by omega, q2⟩]; rfl
    · refine ifF q2 ?_
      rw [decide_eq_false (by omega)]; rfl
theorem s_hasN (C : CL h hw dw ls) {i : Nat} (hi : i < ls.length) : Ledger_has 1 i h = some 1 := by
  rw [s_has C, decide_eq_true ⟨by omega, by omega⟩]; rfl
theorem s_isRight (C : CL h hw dw ls) {m : Nat} (hm : m < 9223372036854775808) (e : hCe h 1 4 = (m : Int)) {i : Nat} (hi : i < ls.length) : Ledger_isRight 1 i h = some (b2i (m.testBit i)) := by
  have H := C.1
  have h60 := C.len
  unfold Ledger_isRight
  refine gB H.t1 ?_
  refine cB (s_hasN C hi) ?_
  refine ifF (by omega) ?_
  refine gB H.t1 ?_
  rw [e]
  refine cB (isIn_n hm (by omega)) ?_
  cases m.testBit i
  · exact ifT rfl rfl
  · exact ifF (by decide) rfl
theorem la_loop (C : CL h hw dw ls) {m : Nat} (hm : m < 9223372036854775808) {e : Nat} (he : e ≤ ls.length) {q : Int} : ∀ (k f j : Nat), j + k = e → k < f → Ledger_leastAhead_3 f 1 m e q j h = some (ahF ls (fun i => m.testBit i) q k j) := by
  have H := C.1
  have h60 := C.len
  intro k
  induction k with
  | zero =>
    intro f j hj hf
    obtain ⟨f, rfl, -⟩ := fu_pos hf
    unfold Ledger_leastAhead_3 ahF
    exact ifF (by omega) rfl
  | succ k ih =>
    intro f j hj hf
    obtain ⟨f, rfl, hf⟩ := fu_pos hf
    have n1 : Ledger_leastAhead_3 f 1 m e q (w32 ((j : Int) + 1)) h = some (ahF ls (fun i => m.testBit i) q k (j + 1)) := by
      rw [w32_e (by omega)]
      exact ih f (j + 1) (by omega) (by omega)
    unfold Ledger_leastAhead_3 ahF
    refine ifT (by omega) ?_
    refine cB (isIn_n hm (by omega)) ?_
    cases t : m.testBit j
    · refine ifT rfl ?_
      rw [if_neg (fun z => by simp at z)]
      exact n1
    · refine ifF (by decide) ?_
      refine gB H.t1 ?_
      refine cB (s_hasN C (by omega)) ?_
      refine ifF (by omega) ?_
      refine gB H.t1 ?_
      rw [H.p1_0]
      refine gB ⟨H.t2, by omega, by rw [H.l2]; omega⟩ ?_
      have L := C.ln (i := j) (by omega)
      refine gB L.1.t ?_
      rw [L.2.1.1]
      by_cases q2 : (gl ls j).1.1 = q
      · refine ifT q2 ?_
        rw [if_pos ⟨rfl, q2⟩]
      · refine ifF q2 ?_
        rw [if_neg (fun z => q2 z.2)]
        exact n1
theorem s_leastAhead (C : CL h hw dw ls) {m : Nat} (hm : m < 9223372036854775808) {e : Nat} (he : e ≤ ls.length) {q : Int} : Ledger_leastAhead 1 m e q h = some (ahS ls (fun i => m.testBit i) e q) := by
  have h60 := C.len
  exact la_loop C hm he e FU 0 (by omega) (fu_big (by omega))
theorem s_leastFor (C : CL h hw dw ls) {m : Nat} (hm : m < 9223372036854775808) (e : hCe h 1 4 = (m : Int)) {q : Int} : Ledger_leastFor 1 q h = some (ahS ls (fun i => m.testBit i) ls.length q) := by
  have H := C.1
  unfold Ledger_leastFor
  refine gB H.t1 ?_
  refine gB H.t1 ?_
  refine gB H.t1 ?_
  rw [e, C.sz]
  exact cB (s_leastAhead C hm (Nat.le_refl _)) rfl
theorem st_loop (C : CL h hw dw ls) {m : Nat} (hm : m < 9223372036854775808) {i : Nat} (hi : i < ls.length) : ∀ (k f j : Nat), j + k = (rows (gl ls i)).length → k < f → Ledger_stands_11 f 1 i m (hCe h 2 i) j h = some (b2i (sdL ls (fun i => m.testBit i) i ((rows (gl ls i)).drop j))) := by
  have H := C.1
  have h60 := C.len
  have L := C.ln hi
  have r1 := L.2.2.1.2.2.1
  have r2 := L.2.2.2.2.2.1
  have rl : (rows (gl ls i)).length ≤ 18 := by unfold rows; rw [List.length_append]; omega
  intro k
  induction k with
  | zero =>
    intro f j hj hf
    obtain ⟨f, rfl, -⟩ := fu_pos hf
    unfold Ledger_stands_11
    refine gB L.1.t ?_
    refine cB (s_rowCount L) ?_
    refine ifF (by unfold rows at hj; omega) ?_
    rw [dr_e (by omega)]
    rfl
  | succ k ih =>
    intro f j hj hf
    obtain ⟨f, rfl, hf⟩ := fu_pos hf
    unfold Ledger_stands_11
    refine gB L.1.t ?_
    refine cB (s_rowCount L) ?_
    have hj' : j < ((gl ls i).2.1 ++ (gl ls i).2.2).length := by unfold rows at hj; omega
    refine ifT (by omega) ?_
    refine gB L.1.t ?_
    refine cB (s_divisor L hj') ?_
    refine gB H.t1 ?_
    refine cB (s_leastAhead C hm (by omega)) ?_
    rw [gt_dr (show j < (rows (gl ls i)).length by omega), sdL_c]
    show (if ahS ls (fun i => m.testBit i) i (gt (rows (gl ls i)) j).1 < 0 then _ else _) = _
    by_cases q : ahS ls (fun i => m.testBit i) i (gt (rows (gl ls i)) j).1 < 0
    · refine ifT q ?_
      rw [decide_eq_false (by omega)]; rfl
    · refine ifF q ?_
      rw [decide_eq_true (by omega), Bool.true_and, w32_e (by omega)]
      exact ih f (j + 1) (by omega) (by omega)
theorem s_stands (C : CL h hw dw ls) {m : Nat} (hm : m < 9223372036854775808) {i : Nat} (hi : i < ls.length) : Ledger_stands 1 i m h = some (b2i (stS ls (fun i => m.testBit i) i)) := by
  have H := C.1
  have h60 := C.len
  have L := C.ln hi
  have r1 := L.2.2.1.2.2.1
  have r2 := L.2.2.2.2.2.1
  have rl : (rows (gl ls i)).length ≤ 18 := by unfold rows; rw [List.length_append]; omega
  unfold Ledger_stands
  refine gB H.t1 ?_
  rw [H.p1_0]
  refine gB ⟨H.t2, by omega, by rw [H.l2]; omega⟩ ?_
  exact st_loop C hm hi (rows (gl ls i)).length FU 0 (by omega) (fu_big (by omega))
/-! ### faults -/
theorem LD.at6 {a b v : Int} {l : LN} (L : LD h a l) (hb : 52 ≤ b ∧ (b - 52) % 5 = 0) (ha : 52 ≤ a ∧ (a - 52) % 5 = 0) : LD (hSet h b 6 v) a l := L.fr (P := fun x y => x = b ∧ y = 6) (Fr.set ⟨rfl, rfl⟩) fun x y q1 q2 q3 z => by omega
theorem CL.at6 (C : CL h hw dw ls) {i : Nat} (hi : i < ls.length) {v : Int} (hv : v = -1 ∨ v = laS (gl ls i)) : CL (hSet h (hCe h 2 i) 6 v) hw dw ls := by
  have p := C.pr hi
  refine ⟨C.1.fr (P := fun x y => x = hCe h 2 i ∧ y = 6) (Fr.set ⟨rfl, rfl⟩) fun b j z => mutL (by unfold MutL; omega), C.2.1.fr (P := fun x y => x = hCe h 2 i ∧ y = 6) (Fr.set ⟨rfl, rfl⟩) (fun j z => by omega) (fun j z => by omega), C.2.2.1, by rw [cN (by omega)]; exact C.sz, fun j hj => ?_⟩
  have pj := C.pr hj
  rw [cN (by omega)]
  refine ⟨(C.ln hj).at6 p pj, C.ok hj, ?_⟩
  unfold ltOK
  by_cases q : j = i
  · subst q; rw [cS]; exact hv
  · rw [cN (Or.inl (C.ne hj hi q))]; exact C.lt hj
theorem s_faultOf (hM : MRok) (C : CL h hw dw ls) {i m : Nat} (hi : i < ls.length) (B : RB h ls i m ls.length) : ∃ h', Ledger_faultOf 1 i h = some (faT ls i, h') ∧ Fr (fun b j => b = hCe h 2 i ∧ j = 6) h h' ∧ CL h' hw dw ls := by
  have H := C.1
  have h60 := C.len
  have L := C.ln hi
  have ok := C.ok hi
  have hm : m < 9223372036854775808 := Nat.lt_of_lt_of_le B.2.1 (Nat.pow_le_pow_right (by omega) (show ls.length ≤ 63 by omega))
  have e0 : stS ls (fun i => m.testBit i) i = stS ls (rtS ls) i := by unfold stS; exact sdL_g fun j hj => ⟨B.2.2 j hj, rfl⟩
  have go : ∀ {r h'}, Ledger_faultOf 1 i h = some (r, h') → r = faT ls i → Fr (fun b j => b = hCe h 2 i ∧ j = 6) h h' → CL h' hw dw ls → ∃ h', Ledger_faultOf 1 i h = some (faT ls i, h') ∧ Fr (fun b j => b = hCe h 2 i ∧ j = 6) h h' ∧ CL h' hw dw ls := fun a b c d => ⟨_, by rw [a, b], c, d⟩
  have st : ∀ {r}, (if b2i (f1S (gl ls i)) = 0 then
    (Side_repeats (hCe h 2 i + 1) h).bind fun u5 =>
    if u5 = 0 then
      (Side_repeats (hCe h 2 i + 3) h).bind fun u7 =>
      if u7 = 0 then
        (Ledger_stands 1 i m h).bind fun u9 =>
        if u9 = 0 then
          some (2, h)
        else
          if hCe h (hCe h 2 i) 6 = (-1 : Int) then
            (Checker_laterFault (hCe h 2 i) h).bind fun u11 =>
            some (u11, hSet h (hCe h 2 i) 6 u11)
          else
            some (hCe h (hCe h 2 i) 6, h)
      else
        some (2, h)
    else
      some (2, h)
  else
    some (1, h)) = r → Ledger_faultOf 1 i h = r := by
    rintro r rfl
    unfold Ledger_faultOf
    refine gB H.t1 ?_
    rw [H.p1_0]
    refine gB ⟨H.t2, by omega, by rw [H.l2]; omega⟩ ?_
    refine cB (s_hasFault1 hM L ok.1) ?_
    congr 1
    refine gB L.1.t ?_
    rw [L.1.p0]
    refine gB L.1.d.1 ?_
    congr 1
    funext u5
    congr 1
    refine gB L.1.t ?_
    rw [L.1.p1]
    refine gB L.1.u.1 ?_
    congr 1
    funext u7
    congr 1
    refine gB H.t1 ?_
    refine gB H.t1 ?_
    rw [B.1]
    congr 1
    funext u9
    congr 1
    refine gB L.1.t ?_
    congr 1
    · congr 1
      funext u11
      refine gB L.1.t ?_
      refine gB L.1.t ?_
      rw [cS]
    · exact gB L.1.t rfl
  have fe : faT ls i = if f1S (gl ls i) = true then 1 else if pB (rpP (gl ls i).2.1) = 1 ∨ pB (rpP (gl ls i).2.2) = 1 ∨ stS ls (rtS ls) i = false then 2 else laS (gl ls i) := rfl
  have same : Fr (fun b j => b = hCe h 2 i ∧ j = 6) h h := Fr.rf
  cases f1 : f1S (gl ls i)
  · by_cases d : rpP (gl ls i).2.1
    · refine go (st (ifT (by rw [f1]; rfl) (cB (s_repeats L.2.2.1) (ifF (by rw [pB_t d]; omega) rfl)))) ?_ same C
      rw [fe, f1, if_neg (by decide), if_pos (Or.inl (pB_t d))]
    · by_cases u : rpP (gl ls i).2.2
      · refine go (st (ifT (by rw [f1]; rfl) (cB (s_repeats L.2.2.1) (ifT (pB_f d) (cB (s_repeats L.2.2.2) (ifF (by rw [pB_t u]; omega) rfl)))))) ?_ same C
        rw [fe, f1, if_neg (by decide), if_pos (Or.inr (Or.inl (pB_t u)))]
      · cases s : stS ls (rtS ls) i
        · refine go (st (ifT (by rw [f1]; rfl) (cB (s_repeats L.2.2.1) (ifT (pB_f d) (cB (s_repeats L.2.2.2) (ifT (pB_f u) (cB (s_stands C hm hi) (ifT (by rw [e0, s]; rfl) rfl)))))))) ?_ same C
          rw [fe, f1, if_neg (by decide), if_pos (Or.inr (Or.inr s))]
        · have fe2 : faT ls i = laS (gl ls i) := by
            rw [fe, f1, if_neg (by decide), if_neg]
            rintro (z | z | z)
            · exact d (pB_1.mp z)
            · exact u (pB_1.mp z)
            · rw [s] at z; exact absurd z (by decide)
          by_cases k : hCe h (hCe h 2 i) 6 = -1
          · exact go (st (ifT (by rw [f1]; rfl) (cB (s_repeats L.2.2.1) (ifT (pB_f d) (cB (s_repeats L.2.2.2) (ifT (pB_f u) (cB (s_stands C hm hi) (ifF (by rw [e0, s]; decide) (ifT k (cB (s_laterFault L ok) rfl)))))))))) fe2.symm (Fr.set ⟨rfl, rfl⟩) (C.at6 hi (Or.inr rfl))
          · refine go (st (ifT (by rw [f1]; rfl) (cB (s_repeats L.2.2.1) (ifT (pB_f d) (cB (s_repeats L.2.2.2) (ifT (pB_f u) (cB (s_stands C hm hi) (ifF (by rw [e0, s]; decide) (ifF k rfl))))))))) ?_ same C
            rcases C.lt hi with z | z
            · exact absurd z k
            · rw [z, fe2]
  · refine go (st (ifF (by rw [f1]; decide) rfl)) ?_ same C
    rw [fe, f1, if_pos rfl]
end LED
