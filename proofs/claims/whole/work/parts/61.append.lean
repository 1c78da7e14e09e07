/-! lines come to the ledger of the class -/
theorem FUL.gr {P : Int → Int → Prop} {h h' : AH} {hw dw hw' dw' : Nat} {ls : List LN} (U : FUL h hw dw ls) (G : Gr P h h') (S' : Sh h') (O' : Own h' hw' dw') (le : ls.length ≤ hw') (q1 : ∀ b j, 1 ≤ b → b ≤ 5 → (b = 2 → j < (ls.length : Int)) → ¬ P b j) (q2 : ∀ i : Nat, i < ls.length → ∀ b j, hCe h 2 i ≤ b → b ≤ hCe h 2 i + 4 → ¬ P b j) : FUL h' hw' dw' ls := by
  obtain ⟨C, S, m, B⟩ := U
  have O := C.2.1
  have n52 : 52 ≤ hNx h := by rw [O.2.2.1]; unfold blkA; omega
  have c5 : ∀ b j, 1 ≤ b → b ≤ 5 → (b = 2 → j < (ls.length : Int)) → hCe h' b j = hCe h b j := fun b j x y z => G.2.1 b j (by omega) (q1 b j x y z)
  refine ⟨⟨S', O', le, (c5 1 5 (by omega) (by omega) (by omega)).trans C.sz, fun i hi => ?_⟩, fun i hi => ?_, m, (c5 1 4 (by omega) (by omega) (by omega)).trans B.1, B.2⟩
  · have e : hCe h' 2 i = hCe h 2 i := c5 2 i (by omega) (by omega) (by omega)
    rw [e]
    have ib := O.2.2.2.1 i (by have := C.2.2.1; omega)
    have hb : hCe h 2 i + 4 < hNx h := by
      obtain ⟨b, hb, eb⟩ := ib
      rw [eb, O.2.2.1]
      unfold blkA
      omega
    refine ⟨(C.ln hi).gr G hb fun b j x y _ => q2 i hi b j x y, C.ok hi, ?_⟩
    unfold ltOK
    rw [G.2.1 _ _ (by omega) (q2 i hi _ _ (by omega) (by omega))]
    exact C.lt hi
  · rw [c5 3 i (by omega) (by omega) (by omega), c5 4 i (by omega) (by omega) (by omega), c5 5 i (by omega) (by omega) (by omega)]
    exact S i hi
/-- the draft of a level is there -/
def drA (h : AH) (j : Nat) : Int := hCe h 13 (j : Int)
theorem Own.blk {h : AH} {hw dw : Nat} (H : Sh h) (O : Own h hw dw) {a : Int} (ha : isBk (hw + dw) a) : Blk h a ∧ BA a ∧ a + 4 < hNx h := by
  obtain ⟨b, hb, rfl⟩ := ha
  obtain ⟨-, -, -, n, h4, -, -, h7⟩ := H
  have en : n = hw + dw := by
    have := O.2.2.1
    rw [h4] at this
    unfold blkA at this
    omega
  subst en
  refine ⟨h7 b hb, Or.inr (by unfold blkA; omega), ?_⟩
  rw [h4]
  unfold blkA
  omega
theorem bk_apart {n : Nat} {a b : Int} (ha : isBk n a) (hb : isBk n b) (q : a ≠ b) : a + 4 < b ∨ b + 4 < a := by
  obtain ⟨i, -, rfl⟩ := ha
  obtain ⟨j, -, rfl⟩ := hb
  unfold blkA at *
  omega
/-- drafts below a level keep what they hold -/
def kpD (h h' : AH) (n : Nat) : Prop := ∀ j : Nat, j < n → hCe h' 13 j = hCe h 13 j ∧ ∀ b i, hCe h 13 j ≤ b → b ≤ hCe h 13 j + 4 → hCe h' b i = hCe h b i
theorem kpD.rf {h : AH} {n : Nat} : kpD h h n := fun _ _ => ⟨rfl, fun _ _ _ _ => rfl⟩
theorem kpD.tr {h h1 h2 : AH} {n : Nat} (A : kpD h h1 n) (B : kpD h1 h2 n) : kpD h h2 n := fun j hj => ⟨(B j hj).1.trans (A j hj).1, fun b i x y => ((B j hj).2 b i (by rw [(A j hj).1]; exact x) (by rw [(A j hj).1]; exact y)).trans ((A j hj).2 b i x y)⟩
theorem kpD.le {h h' : AH} {n m : Nat} (A : kpD h h' n) (q : m ≤ n) : kpD h h' m := fun j hj => A j (by omega)
/-- what finding may change of what does not grow -/
def BP (b _j : Int) : Prop := (1 ≤ b ∧ b ≤ 13 ∧ b ≠ 6) ∨ 52 ≤ b
theorem s_draftAt {h : AH} {hw dw : Nat} {ls : List LN} (U : FUL h hw dw ls) {lv : Nat} (hl : lv ≤ dw) (l40 : lv < 40) : ∃ h' dw', Finder_draftAt 6 lv h = some (hCe h' 13 lv, h') ∧ FUL h' hw dw' ls ∧ lv < dw' ∧ dw ≤ dw' ∧ Gr BP h h' ∧ kpD h h' lv := by
  have H := U.1.1
  have O := U.1.2.1
  obtain ⟨o1, o2, o3, o4, o5, o6, o7, o8, o9, o10⟩ := id O
  by_cases q : lv < dw
  · refine ⟨h, dw, ?_, U, q, Nat.le_refl _, Gr.rf, kpD.rf⟩
    have := (o6 lv q).r
    unfold Finder_draftAt
    refine ifF (by omega) ?_
    refine ifT (by omega) ?_
    refine gB H.t6 ?_
    rw [H.p6_3]
    refine gB ⟨H.t13, by omega, by rw [H.l13]; omega⟩ ?_
    refine ifF (by omega) ?_
    refine gB H.t6 ?_
    refine gB ⟨H.t13, by omega, by rw [H.l13]; omega⟩ ?_
    rfl
  · have e : lv = dw := by omega
    subst e
    have N0 : 0 ≤ hNx h := by rw [o3]; unfold blkA; omega
    obtain ⟨h1, e1, G1, n1, w1, B1⟩ := s_newLine (h := h) rfl N0
    have G1' : Gr (fun b j => b = 13 ∧ j = (lv : Int)) h (hSet h1 13 lv (hNx h)) := (G1.mo fun _ _ z => z.elim).tr (Fr.set ⟨rfl, rfl⟩).gr
    have n13 : 13 < hNx h := by rw [o3]; unfold blkA; omega
    have H' : Sh (hSet h1 13 lv (hNx h)) := H.grow G1' (fun b j _ z => mutB (by unfold MutB; omega)) (fun b j x z => by omega) (n := hw + lv) o3 (by omega) n1 w1 (B1.fr (P := fun b j => b = 13 ∧ j = (lv : Int)) (Fr.set ⟨rfl, rfl⟩) (by omega) (by omega) (by omega) (by omega))
    have c2 : ∀ j, hCe (hSet h1 13 lv (hNx h)) 2 j = hCe h 2 j := fun j => G1'.2.1 2 j (by omega) (by omega)
    have c13 : ∀ j : Nat, j ≠ lv → hCe (hSet h1 13 lv (hNx h)) 13 j = hCe h 13 j := fun j hj => G1'.2.1 13 j (by omega) (by omega)
    have cN : hCe (hSet h1 13 lv (hNx h)) 13 lv = hNx h := cS _ _ _ _
    have up : ∀ a, isBk (hw + lv) a → isBk (hw + (lv + 1)) a := fun a ⟨b, x, y⟩ => ⟨b, by omega, y⟩
    have nb : isBk (hw + (lv + 1)) (hNx h) := ⟨hw + lv, by omega, o3⟩
    have ne : ∀ a, isBk (hw + lv) a → a ≠ hNx h := fun a ⟨b, x, y⟩ z => by rw [o3, y] at z; unfold blkA at z; omega
    have O' : Own (hSet h1 13 lv (hNx h)) hw (lv + 1) := by
      refine ⟨o1, by omega, ?_, fun i hi => ?_, fun i a b => ?_, fun i hi => ?_, fun i a b => ?_, fun i j a b c => ?_, fun i j a b c => ?_, fun i j a b => ?_⟩
      · show hNx h1 = _
        rw [n1, o3]
        unfold blkA
        omega
      · rw [c2]; exact up _ (o4 i hi)
      · rw [c2]; exact o5 i a b
      · by_cases z : i = lv
        · subst z; rw [cN]; exact nb
        · rw [c13 i z]; exact up _ (o6 i (by omega))
      · rw [c13 i (by omega)]; exact o7 i (by omega) b
      · rw [c2, c2] at c; exact o8 i j a b c
      · by_cases zi : i = lv
        · by_cases zj : j = lv
          · omega
          · exfalso
            subst zi
            rw [cN, c13 j zj] at c
            exact ne _ (o6 j (by omega)) c.symm
        · by_cases zj : j = lv
          · exfalso
            subst zj
            rw [cN, c13 i zi] at c
            exact ne _ (o6 i (by omega)) c
          · rw [c13 i zi, c13 j zj] at c
            exact o9 i j (by omega) (by omega) c
      · rw [c2]
        by_cases zj : j = lv
        · subst zj; rw [cN]; exact ne _ (o4 i a)
        · rw [c13 j zj]; exact o10 i j a (by omega)
    refine ⟨hSet h1 13 lv (hNx h), lv + 1, ?_, U.gr G1' H' O' U.1.2.2.1 (fun b j x y _ z => by omega) (fun i hi b j x y z => by
      have := (o4 i (by have := U.1.2.2.1; omega)).r
      omega), by omega, by omega, G1'.mo fun b j z => Or.inl (by omega), fun j hj => ⟨c13 j (by omega), fun b i x y => ?_⟩⟩
    · unfold Finder_draftAt
      refine ifF (by omega) ?_
      refine ifT (by omega) ?_
      refine gB H.t6 ?_
      rw [H.p6_3]
      refine gB ⟨H.t13, by omega, by rw [H.l13]; omega⟩ ?_
      rw [o7 lv (Nat.le_refl _) l40]
      refine ifT (by omega) ?_
      refine gB H.t6 ?_
      refine gB trivial ?_
      refine gB N0 ?_
      refine cB e1 ?_
      have t13 : hTy h1 13 = 26 := ((G1.1 13 n13).1).trans H.t13
      have l13 : hLn h1 13 = 40 := ((G1.1 13 n13).2).trans H.l13
      refine gB ⟨⟨t13, by omega, by rw [l13]; omega⟩, Or.inr B1.1⟩ ?_
      refine gB H'.t6 ?_
      rw [H'.p6_3]
      refine gB ⟨H'.t13, by omega, by rw [H'.l13]; omega⟩ ?_
      rfl
    · obtain ⟨k, hk, ek⟩ := o6 j hj
      exact G1'.2.1 b i (by rw [o3]; unfold blkA at *; omega) (by unfold blkA at *; omega)
/-! ### append -/
theorem gl_app {ls : List LN} {l : LN} {i : Nat} (hi : i < ls.length) : gl ls i = gl (ls ++ [l]) i := by
  unfold gl
  rw [List.getD_eq_getElem?_getD, List.getD_eq_getElem?_getD, List.getElem?_append_left hi]
theorem gl_new {ls : List LN} {l : LN} : gl (ls ++ [l]) ls.length = l := by
  unfold gl
  rw [List.getD_eq_getElem?_getD, List.getElem?_append_right (Nat.le_refl _), Nat.sub_self]; rfl
theorem len_app {ls : List LN} {l : LN} : (ls ++ [l]).length = ls.length + 1 := by rw [List.length_append]; rfl
/-- a copy of a line comes behind all, not checked -/
theorem s_app40 {h : AH} {hw dw : Nat} {ls : List LN} (C : CL h hw dw ls) (lt : ls.length < hw) {a : Int} {l : LN} (L : LD h a l) (ok : okL l) (t : ltOK h a l) (ap : a + 4 < hCe h 2 ls.length ∨ hCe h 2 ls.length + 4 < a) (a6 : 16 < a) : ∃ h', Ledger_append_40 1 a h = some ((ls.length : Int), h') ∧ Fr (fun b j => LK (hCe h 2 ls.length) b j ∨ (b = 1 ∧ j = 5)) h h' ∧ CL h' hw dw (ls ++ [l]) := by
  have H := C.1
  have O := C.2.1
  obtain ⟨o1, o2, o3, o4, o5, o6, o7, o8, o9, o10⟩ := id O
  have ib := o4 ls.length lt
  obtain ⟨Bc, bA, bn⟩ := O.blk H ib
  have cr := ib.r
  obtain ⟨h1, e1, F1, L1, c6⟩ := s_lineCopy Bc L (by omega)
  have H1 := H.fr F1 fun b j => LK.mut bA
  have z1 : hCe h1 1 5 = (ls.length : Int) := (F1.2 _ _ (by unfold LK SK; omega)).trans C.sz
  let h2 := hSet h1 1 5 ((ls.length : Int) + 1)
  have F2 : Fr (fun b j => LK (hCe h 2 ls.length) b j ∨ (b = 1 ∧ j = 5)) h h2 := (F1.mo fun b j z => Or.inl z).setT (Or.inr ⟨rfl, rfl⟩)
  have c2 : ∀ j, hCe h2 2 j = hCe h 2 j := fun j => F2.2 _ _ (by unfold LK SK; omega)
  have L2 : LD h2 (hCe h 2 ls.length) l := L1.fr (P := fun b j => b = 1 ∧ j = 5) (Fr.set ⟨rfl, rfl⟩) fun b j x y _ z => by omega
  have H2 : Sh h2 := H.fr F2 fun b j z => z.elim (LK.mut bA) fun y => mutA (by unfold MutA; omega)
  refine ⟨h2, ?_, F2, H2, O.fr F2 (fun j => by unfold LK SK; omega) (fun j => by unfold LK SK; omega), by rw [len_app]; omega, by rw [len_app]; exact cS _ _ _ _, fun i hi => ?_⟩
  · unfold Ledger_append_40
    refine gB H.t1 ?_
    rw [H.p1_0]
    refine gB H.t1 ?_
    rw [C.sz]
    refine gB ⟨H.t2, by omega, by rw [H.l2]; omega⟩ ?_
    refine gB Bc.t ?_
    refine cB e1 ?_
    refine gB H1.t1 ?_
    rw [z1, w32_e (z := (ls.length : Int) + 1) (by omega)]
    refine gB H1.t1 ?_
    refine gB H1.t1 ?_
    rw [cS, w32_e (by omega), show (ls.length : Int) + 1 - 1 = (ls.length : Int) by omega]
  · rw [c2]
    rw [len_app] at hi
    by_cases z : i = ls.length
    · subst z
      rw [gl_new]
      refine ⟨L2, ok, ?_⟩
      unfold ltOK at *
      rw [show hCe h2 (hCe h 2 ls.length) 6 = hCe h1 (hCe h 2 ls.length) 6 from cN (by omega), c6]
      exact t
    · have hi' : i < ls.length := by omega
      have ne := bk_apart (o4 i (by omega)) ib (fun y => z (o8 i ls.length (by omega) lt y))
      have nk : ∀ b j, hCe h 2 i ≤ b → b ≤ hCe h 2 i + 4 → ¬ (LK (hCe h 2 ls.length) b j ∨ (b = 1 ∧ j = 5)) := fun b j x y w => by
        have := (o4 i (by omega)).r
        unfold LK SK at w
        omega
      rw [← gl_app hi']
      refine ⟨(C.ln hi').fr F2 fun b j x y _ => nk b j x y, C.ok hi', ?_⟩
      unfold ltOK
      rw [F2.2 _ _ (nk _ _ (by omega) (by omega))]
      exact C.lt hi'
/-- room for one more -/
theorem s_append2 {h : AH} {hw dw : Nat} {ls : List LN} (C : CL h hw dw ls) (lt : ls.length < 60) {a : Int} {l : LN} (L : LD h a l) (ok : okL l) (t : ltOK h a l) (a6 : 16 < a) (an : a + 4 < hNx h) (ab : ∀ i : Nat, i < hw → a + 4 < hCe h 2 i ∨ hCe h 2 i + 4 < a) : ∃ h' hw', Ledger_append 1 a h = some ((ls.length : Int), h') ∧ CL h' hw' dw (ls ++ [l]) ∧ hw ≤ hw' ∧ Gr (fun b j => (b = 1 ∧ j = 5) ∨ (b = 2 ∧ (ls.length : Int) ≤ j) ∨ (ls.length < hw ∧ LK (hCe h 2 ls.length) b j)) h h' := by
  have H := C.1
  have O := C.2.1
  obtain ⟨o1, o2, o3, o4, o5, o6, o7, o8, o9, o10⟩ := id O
  by_cases q : ls.length < hw
  · obtain ⟨h', e', F', C'⟩ := s_app40 C q L ok t (ab _ q) a6
    have := (o4 _ q).r
    refine ⟨h', hw, ?_, C', Nat.le_refl _, F'.gr.mo fun b j z => z.elim (fun y => Or.inr (Or.inr ⟨q, y⟩)) Or.inl⟩
    unfold Ledger_append
    refine gB H.t1 ?_
    rw [C.sz]
    refine ifT (by omega) ?_
    refine gB H.t1 ?_
    rw [H.p1_0]
    refine gB H.t1 ?_
    refine gB ⟨H.t2, by omega, by rw [H.l2]; omega⟩ ?_
    refine ifF (by omega) ?_
    exact e'
  · have e : hw = ls.length := by have := C.2.2.1; omega
    subst e
    have N0 : 0 ≤ hNx h := by rw [o3]; unfold blkA; omega
    have n13 : 13 < hNx h := by rw [o3]; unfold blkA; omega
    obtain ⟨h1, e1, G1, n1, w1, B1⟩ := s_newLine (h := h) rfl N0
    let h2 := hSet h1 2 ls.length (hNx h)
    have G2 : Gr (fun b j => b = 2 ∧ j = (ls.length : Int)) h h2 := (G1.mo fun _ _ z => z.elim).tr (Fr.set ⟨rfl, rfl⟩).gr
    have H2 : Sh h2 := H.grow G2 (fun b j _ z => mutA (by unfold MutA; omega)) (fun b j x z => by omega) (n := ls.length + dw) o3 (by omega) n1 w1 (B1.fr (P := fun b j => b = 2 ∧ j = (ls.length : Int)) (Fr.set ⟨rfl, rfl⟩) (by omega) (by omega) (by omega) (by omega))
    have c13 : ∀ j, hCe h2 13 j = hCe h 13 j := fun j => G2.2.1 13 j (by omega) (by omega)
    have c2 : ∀ j : Nat, j ≠ ls.length → hCe h2 2 j = hCe h 2 j := fun j hj => G2.2.1 2 j (by omega) (by omega)
    have cN : hCe h2 2 ls.length = hNx h := cS _ _ _ _
    have up : ∀ x, isBk (ls.length + dw) x → isBk (ls.length + 1 + dw) x := fun x ⟨b, y, z⟩ => ⟨b, by omega, z⟩
    have nb : isBk (ls.length + 1 + dw) (hNx h) := ⟨ls.length + dw, by omega, o3⟩
    have ne : ∀ x, isBk (ls.length + dw) x → x ≠ hNx h := fun x ⟨b, y, z⟩ w => by rw [o3, z] at w; unfold blkA at w; omega
    have O2 : Own h2 (ls.length + 1) dw := by
      refine ⟨by omega, o2, ?_, fun i hi => ?_, fun i x y => ?_, fun i hi => ?_, fun i x y => ?_, fun i j x y z => ?_, fun i j x y z => ?_, fun i j x y => ?_⟩
      · show hNx h1 = _
        rw [n1, o3]
        unfold blkA
        omega
      · by_cases z : i = ls.length
        · subst z; rw [cN]; exact nb
        · rw [c2 i z]; exact up _ (o4 i (by omega))
      · rw [c2 i (by omega)]; exact o5 i (by omega) y
      · rw [c13]; exact up _ (o6 i hi)
      · rw [c13]; exact o7 i x y
      · by_cases zi : i = ls.length
        · by_cases zj : j = ls.length
          · omega
          · exfalso
            subst zi
            rw [cN, c2 j zj] at z
            exact ne _ (o4 j (by omega)) z.symm
        · by_cases zj : j = ls.length
          · exfalso
            subst zj
            rw [cN, c2 i zi] at z
            exact ne _ (o4 i (by omega)) z
          · rw [c2 i zi, c2 j zj] at z
            exact o8 i j (by omega) (by omega) z
      · rw [c13, c13] at z; exact o9 i j x y z
      · rw [c13]
        by_cases zi : i = ls.length
        · subst zi; rw [cN]; exact fun w => ne _ (o6 j y) w.symm
        · rw [c2 i zi]; exact o10 i j (by omega) y
    have C2 : CL h2 (ls.length + 1) dw ls := by
      refine ⟨H2, O2, by omega, (G2.2.1 1 5 (by omega) (by omega)).trans C.sz, fun i hi => ?_⟩
      rw [c2 i (by omega)]
      have ib := (o4 i hi)
      have ir := ib.r
      have hb : hCe h 2 i + 4 < hNx h := (O.blk H ib).2.2
      refine ⟨(C.ln hi).gr G2 hb fun b j x y _ z => by omega, C.ok hi, ?_⟩
      unfold ltOK
      rw [G2.2.1 _ _ (by omega) (by omega)]
      exact C.lt hi
    have L2 : LD h2 a l := L.gr G2 an fun b j x y _ z => by omega
    have t2 : ltOK h2 a l := by
      unfold ltOK at *
      rw [G2.2.1 _ _ (by omega) (by omega)]
      exact t
    obtain ⟨h', e', F', C'⟩ := s_app40 C2 (by omega) L2 ok t2 (by rw [cN]; omega) a6
    refine ⟨h', ls.length + 1, ?_, C', by omega, ?_⟩
    · unfold Ledger_append
      refine gB H.t1 ?_
      rw [C.sz]
      refine ifT (by omega) ?_
      refine gB H.t1 ?_
      rw [H.p1_0]
      refine gB H.t1 ?_
      refine gB ⟨H.t2, by omega, by rw [H.l2]; omega⟩ ?_
      rw [o5 ls.length (Nat.le_refl _) lt]
      refine ifT (by omega) ?_
      refine gB H.t1 ?_
      refine gB H.t1 ?_
      refine gB trivial ?_
      refine gB N0 ?_
      refine cB e1 ?_
      have t2' : hTy h1 2 = 26 := ((G1.1 2 (by omega)).1).trans H.t2
      have l2' : hLn h1 2 = 60 := ((G1.1 2 (by omega)).2).trans H.l2
      refine gB ⟨⟨t2', by omega, by rw [l2']; omega⟩, Or.inr B1.1⟩ ?_
      exact e'
    · rw [cN] at F'
      refine ⟨fun x hx => ⟨(F'.1.ty x).trans (G2.1 x hx).1, (F'.1.ln x).trans (G2.1 x hx).2⟩, fun b j hb z => ?_, by rw [F'.1.nx]; exact G2.2.2⟩
      rw [F'.2 b j (by unfold LK SK; omega)]
      exact G2.2.1 b j hb (by omega)
theorem CL.m63 {h : AH} {hw dw : Nat} {ls : List LN} (C : CL h hw dw ls) {m k : Nat} (hm : m < 2 ^ ls.length) : m < 9223372036854775808 := Nat.lt_of_lt_of_le hm (Nat.pow_le_pow_right (by omega) (show ls.length ≤ 63 by have := C.len; omega))
theorem s_appendRight {h : AH} {hw dw : Nat} {ls : List LN} (U : FUL h hw dw ls) (lt : ls.length < 60) {lv : Nat} (hlv : lv < dw) {l : LN} (L : LD h (hCe h 13 lv) l) (ok : okL l) (t : ltOK h (hCe h 13 lv) l) (rt : faT (ls ++ [l]) ls.length = 0) : ∃ h' hw', Ledger_appendRight 1 (hCe h 13 lv) h = some ((ls.length : Int), h') ∧ FUL h' hw' dw (ls ++ [l]) ∧ Gr BP h h' ∧ kpD h h' dw := by
  obtain ⟨C, S, m, B⟩ := U
  have H := C.1
  have O := C.2.1
  obtain ⟨o1, o2, o3, o4, o5, o6, o7, o8, o9, o10⟩ := id O
  have ib := o6 lv hlv
  have ir := ib.r
  have an := (O.blk H ib).2.2
  obtain ⟨h1, hw', e1, C1, le, G1⟩ := s_append2 C lt L ok t (by omega) an fun i hi => bk_apart ib (o4 i hi) fun z => o10 i lv hi hlv z.symm
  have n52 : 52 ≤ hNx h := by rw [o3]; unfold blkA; omega
  have far : ∀ b j, 3 ≤ b → b < 52 → hCe h1 b j = hCe h b j := fun b j x y => G1.2.1 b j (by omega) fun z => by
    rcases z with z | z | ⟨z, w⟩
    · omega
    · omega
    · have := (o4 _ z).r
      unfold LK SK at w
      omega
  have g : ∀ i, i < ls.length → gl ls i = gl (ls ++ [l]) i := fun i hi => gl_app hi
  have S1 : SP h1 (ls ++ [l]) ls.length := SP.g (fun i hi => by
    rw [far 3 i (by omega) (by omega), far 4 i (by omega) (by omega), far 5 i (by omega) (by omega)]
    exact S i hi) g
  have B1 : RB h1 (ls ++ [l]) ls.length m (ls ++ [l]).length := RB.le (RB.g ⟨(G1.2.1 1 4 (by omega) (fun z => by
    rcases z with z | z | ⟨z, w⟩
    · omega
    · omega
    · have := (o4 _ z).r
      unfold LK SK at w
      omega)).trans B.1, B.2⟩ g) (Nat.le_refl _) (by rw [len_app]; omega)
  obtain ⟨h2, e2, F2, S2, m2, B2⟩ := s_settle C1 (by rw [len_app]; omega) S1 B1
  have C2 := C1.fr F2 fun b j z => by unfold SK1 at z; omega
  rw [rt] at e2
  have S2' : SP h2 (ls ++ [l]) (ls ++ [l]).length := by rw [len_app]; exact S2
  have B2' : RB h2 (ls ++ [l]) (ls ++ [l]).length m2 (ls ++ [l]).length := by
    rw [len_app] at *
    exact B2
  refine ⟨h2, hw', ?_, ⟨C2, S2', m2, B2'⟩, ?_, fun j hj => ?_⟩
  · unfold Ledger_appendRight
    refine gB H.t1 ?_
    refine cB e1 ?_
    refine ifF (by show ¬ (ls.length : Int) < 0; omega) ?_
    refine gB C1.1.t1 ?_
    refine cB e2 ?_
    rfl
  · refine (G1.mo fun b j z => ?_).tr (F2.gr.mo fun b j z => by unfold SK1 at z; unfold BP; omega)
    rcases z with z | z | ⟨z, w⟩
    · unfold BP; omega
    · unfold BP; omega
    · have := (o4 _ z).r
      unfold LK SK at w
      unfold BP
      omega
  · have jb := o6 j hj
    have jr := jb.r
    have jn := (O.blk H jb).2.2
    refine ⟨(F2.2 _ _ (by unfold SK1; omega)).trans (far 13 _ (by omega) (by omega)), fun b i x y => ?_⟩
    refine (F2.2 _ _ (by unfold SK1; omega)).trans (G1.2.1 b i (by omega) fun z => ?_)
    rcases z with z | z | ⟨z, w⟩
    · omega
    · omega
    · have := bk_apart (o4 _ z) jb (o10 _ j z hj)
      unfold LK SK at w
      omega
