/-! new lines; copies -/
/-- what was there keeps its kind and, but for P, its cells -/
def Gr (P : Int → Int → Prop) (h h' : AH) : Prop := (∀ a, a < hNx h → hTy h' a = hTy h a ∧ hLn h' a = hLn h a) ∧ (∀ b j, b < hNx h → ¬ P b j → hCe h' b j = hCe h b j) ∧ hNx h ≤ hNx h'
theorem Gr.rf {P : Int → Int → Prop} {h : AH} : Gr P h h := ⟨fun _ _ => ⟨rfl, rfl⟩, fun _ _ _ _ => rfl, Int.le_refl _⟩
theorem Fr.gr {P : Int → Int → Prop} {h h' : AH} (F : Fr P h h') : Gr P h h' := ⟨fun a _ => ⟨F.1.ty a, F.1.ln a⟩, fun b j _ q => F.2 b j q, by rw [F.1.nx]; exact Int.le_refl _⟩
theorem Gr.tr {P : Int → Int → Prop} {h h1 h2 : AH} (A : Gr P h h1) (B : Gr P h1 h2) : Gr P h h2 := ⟨fun a q => ⟨((B.1 a (by have := A.2.2; omega)).1).trans (A.1 a q).1, ((B.1 a (by have := A.2.2; omega)).2).trans (A.1 a q).2⟩, fun b j q z => (B.2.1 b j (by have := A.2.2; omega) z).trans (A.2.1 b j q z), Int.le_trans A.2.2 B.2.2⟩
theorem Gr.mo {P Q : Int → Int → Prop} {h h' : AH} (A : Gr P h h') (q : ∀ b j, P b j → Q b j) : Gr Q h h' := ⟨A.1, fun b j y z => A.2.1 b j y fun w => z (q b j w), A.2.2⟩
theorem SB.ce {h h' : AH} {s : Int} (S : SB h s) (t0 : hTy h' s = hTy h s) (t1 : hTy h' (s + 1) = hTy h (s + 1)) (l1 : hLn h' (s + 1) = hLn h (s + 1)) (c : hCe h' s 0 = hCe h s 0) : SB h' s := by
  unfold SB at *
  rw [t0, t1, l1, c]
  exact S
theorem SD.gr {P : Int → Int → Prop} {h h' : AH} {s : Int} {l : List RW} (S : SD h s l) (G : Gr P h h') (n : s + 1 < hNx h) (q0 : ¬ P s 0) (q1 : ¬ P s 1) (q : ∀ j, ¬ P (s + 1) j) : SD h' s l := by
  refine ⟨S.1.ce (G.1 s (by omega)).1 (G.1 _ n).1 (G.1 _ n).2 (G.2.1 _ _ (by omega) q0), (G.2.1 _ _ (by omega) q1).trans S.2.1, S.2.2.1, fun i hi => ?_⟩
  have := S.2.2.2 i hi
  unfold rwAt at *
  rw [G.2.1 _ _ n (q _), G.2.1 _ _ n (q _), G.2.1 _ _ n (q _)]
  exact this
theorem Blk.gr {P : Int → Int → Prop} {h h' : AH} {a : Int} (B : Blk h a) (G : Gr P h h') (n : a + 4 < hNx h) (q0 : ¬ P a 0) (q1 : ¬ P a 1) (q2 : ¬ P (a + 1) 0) (q3 : ¬ P (a + 3) 0) : Blk h' a := by
  unfold Blk at *
  rw [(G.1 a (by omega)).1, (G.1 (a + 1) (by omega)).1, (G.1 (a + 2) (by omega)).1, (G.1 (a + 3) (by omega)).1, (G.1 (a + 4) n).1, (G.1 (a + 2) (by omega)).2, (G.1 (a + 4) n).2, G.2.1 _ _ (by omega) q0, G.2.1 _ _ (by omega) q1, G.2.1 _ _ (by omega) q2, G.2.1 _ _ (by omega) q3]
  exact B
theorem LD.gr {P : Int → Int → Prop} {h h' : AH} {a : Int} {l : LN} (L : LD h a l) (G : Gr P h h') (n : a + 4 < hNx h) (q : ∀ b j, a ≤ b → b ≤ a + 4 → (b = a → j < 6) → ¬ P b j) : LD h' a l := by
  obtain ⟨B, H, D, U⟩ := L
  refine ⟨B.gr G n (q _ _ (by omega) (by omega) (by omega)) (q _ _ (by omega) (by omega) (by omega)) (q _ _ (by omega) (by omega) (by omega)) (q _ _ (by omega) (by omega) (by omega)), ?_, D.gr G (by omega) (q _ _ (by omega) (by omega) (by omega)) (q _ _ (by omega) (by omega) (by omega)) (fun j => q _ _ (by omega) (by omega) (by omega)), U.gr G (by omega) (q _ _ (by omega) (by omega) (by omega)) (q _ _ (by omega) (by omega) (by omega)) (fun j => q _ _ (by omega) (by omega) (by omega))⟩
  unfold hdAt at *
  rw [G.2.1 _ _ (by omega) (q _ _ (by omega) (by omega) (by omega)), G.2.1 _ _ (by omega) (q _ _ (by omega) (by omega) (by omega)), G.2.1 _ _ (by omega) (q _ _ (by omega) (by omega) (by omega)), G.2.1 _ _ (by omega) (q _ _ (by omega) (by omega) (by omega))]
  exact H
/-! ### making -/
theorem tNw {h : AH} {t : Nat} {n : Int} {d : Int → Int} {b : Int} : hTy (hNew h t n d) b = if b = hNx h then t else hTy h b := rfl
theorem lNw {h : AH} {t : Nat} {n : Int} {d : Int → Int} {b : Int} : hLn (hNew h t n d) b = if b = hNx h then n else hLn h b := rfl
theorem cNw {h : AH} {t : Nat} {n : Int} {d : Int → Int} {b j : Int} : hCe (hNew h t n d) b j = if b = hNx h then d j else hCe h b j := rfl
theorem nNw {h : AH} {t : Nat} {n : Int} {d : Int → Int} : hNx (hNew h t n d) = hNx h + 1 := rfl
theorem wNw {h : AH} {t : Nat} {n : Int} {d : Int → Int} : hWd (hNew h t n d) = hWd h + n := rfl
theorem s_newLine {h : AH} {N : Int} (hN : hNx h = N) (h0 : 0 ≤ N) : ∃ h', Line_init N (hNew h 4 7 (dfO 3)) = some h' ∧ Gr (fun _ _ => False) h h' ∧ hNx h' = N + 5 ∧ hWd h' = hWd h + 65 ∧ Blk h' N := by
  subst hN
  let h1 := hNew (hNew (hNew h 4 7 (dfO 3)) 6 2 (dfO 5)) 21 27 (dfA 21)
  let h2 := hSet (hSet h1 (hNx h + 1) 0 (hNx h + 2)) (hNx h) 0 (hNx h + 1)
  let h3 := hNew (hNew h2 6 2 (dfO 5)) 21 27 (dfA 21)
  let h4 := hSet (hSet (hSet h3 (hNx h + 3) 0 (hNx h + 4)) (hNx h) 1 (hNx h + 3)) (hNx h) 6 (-1)
  have ty : ∀ b, hTy h4 b = if b = hNx h + 4 then 21 else if b = hNx h + 3 then 6 else if b = hNx h + 2 then 21 else if b = hNx h + 1 then 6 else if b = hNx h then 4 else hTy h b := by
    intro b
    show (if b = hNx h + 1 + 1 + 1 + 1 then 21 else if b = hNx h + 1 + 1 + 1 then 6 else if b = hNx h + 1 + 1 then 21 else if b = hNx h + 1 then 6 else if b = hNx h then 4 else hTy h b) = _
    rw [show hNx h + 1 + 1 + 1 + 1 = hNx h + 4 by omega, show hNx h + 1 + 1 + 1 = hNx h + 3 by omega, show hNx h + 1 + 1 = hNx h + 2 by omega]
  have ln : ∀ b, hLn h4 b = if b = hNx h + 4 then 27 else if b = hNx h + 3 then (2 : Int) else if b = hNx h + 2 then 27 else if b = hNx h + 1 then 2 else if b = hNx h then 7 else hLn h b := by
    intro b
    show (if b = hNx h + 1 + 1 + 1 + 1 then (27 : Int) else if b = hNx h + 1 + 1 + 1 then 2 else if b = hNx h + 1 + 1 then 27 else if b = hNx h + 1 then 2 else if b = hNx h then 7 else hLn h b) = _
    rw [show hNx h + 1 + 1 + 1 + 1 = hNx h + 4 by omega, show hNx h + 1 + 1 + 1 = hNx h + 3 by omega, show hNx h + 1 + 1 = hNx h + 2 by omega]
  have ce : ∀ b j, b < hNx h → hCe h4 b j = hCe h b j := by
    intro b j q
    show hCe (hSet (hSet (hSet h3 (hNx h + 3) 0 (hNx h + 4)) (hNx h) 1 (hNx h + 3)) (hNx h) 6 (-1)) b j = _
    rw [cN (by omega), cN (by omega), cN (by omega)]
    show (if b = hNx h + 1 + 1 + 1 + 1 then _ else if b = hNx h + 1 + 1 + 1 then _ else hCe h2 b j) = _
    rw [if_neg (by omega), if_neg (by omega)]
    show hCe (hSet (hSet h1 (hNx h + 1) 0 (hNx h + 2)) (hNx h) 0 (hNx h + 1)) b j = _
    rw [cN (by omega), cN (by omega)]
    show (if b = hNx h + 1 + 1 then _ else if b = hNx h + 1 then _ else if b = hNx h then _ else hCe h b j) = _
    rw [if_neg (by omega), if_neg (by omega), if_neg (by omega)]
  refine ⟨h4, ?_, ⟨fun a q => ⟨?_, ?_⟩, fun b j q _ => ce b j q, by show hNx h ≤ hNx h + 1 + 1 + 1 + 1 + 1; omega⟩, by show hNx h + 1 + 1 + 1 + 1 + 1 = _; omega, by show hWd h + 7 + 2 + 27 + 2 + 27 = _; omega, ?_⟩
  · unfold Line_init Side_init
    refine gB h0 ?_
    refine gB trivial ?_
    refine gB (by show 0 ≤ hNx h + 1; omega) ?_
    refine cB (v := hSet h1 (hNx h + 1) 0 (hNx h + 2)) ?_ ?_
    · refine gB (by show 0 ≤ hNx h + 1; omega) ?_
      refine gB (by omega) ?_
      refine gB (by rw [tNw, if_neg (by rw [nNw, nNw, nNw]; omega), tNw, if_pos rfl]) ?_
      show some (hSet h1 (hNx h + 1) 0 (hNx h + 1 + 1)) = _
      rw [show hNx h + 1 + 1 = hNx h + 2 by omega]
    refine gB ?_ ?_
    · show hTy h1 (hNx h) = 4
      show (if hNx h = hNx h + 1 + 1 then 21 else if hNx h = hNx h + 1 then 6 else if hNx h = hNx h then 4 else hTy h (hNx h)) = 4
      rw [if_neg (by omega), if_neg (by omega), if_pos rfl]
    show ((gd (True) (hNew h2 6 2 (dfO 5))).bind fun h6 => _) = _
    refine gB trivial ?_
    have n2 : hNx h2 = hNx h + 3 := by show hNx h + 1 + 1 + 1 = _; omega
    have n2' : hNx (hSet (hSet h1 (hNx h + 1) 0 (hNx h + 2)) (hNx h) 0 (hNx (hNew h 4 7 (dfO 3)))) = hNx h + 3 := n2
    rw [n2']
    refine gB (by omega) ?_
    refine cB (v := hSet h3 (hNx h + 3) 0 (hNx h + 4)) ?_ ?_
    · refine gB (by omega) ?_
      refine gB (by omega) ?_
      refine gB ?_ ?_
      · show (if hNx h + 3 = hNx h2 + 1 then 21 else if hNx h + 3 = hNx h2 then 6 else hTy h2 (hNx h + 3)) = 6
        rw [n2, if_neg (by omega), if_pos rfl]
      show some (hSet h3 (hNx h + 3) 0 (hNx h2 + 1)) = _
      rw [n2, show hNx h + 3 + 1 = hNx h + 4 by omega]
    have t3 : hTy h3 (hNx h) = 4 := by
      show (if hNx h = hNx h2 + 1 then 21 else if hNx h = hNx h2 then 6 else hTy h2 (hNx h)) = 4
      rw [n2, if_neg (by omega), if_neg (by omega)]
      show (if hNx h = hNx h + 1 + 1 then 21 else if hNx h = hNx h + 1 then 6 else if hNx h = hNx h then 4 else hTy h (hNx h)) = 4
      rw [if_neg (by omega), if_neg (by omega), if_pos rfl]
    refine gB t3 ?_
    refine gB t3 ?_
    rfl
  · rw [ty, if_neg (by omega), if_neg (by omega), if_neg (by omega), if_neg (by omega), if_neg (by omega)]
  · rw [ln, if_neg (by omega), if_neg (by omega), if_neg (by omega), if_neg (by omega), if_neg (by omega)]
  · refine ⟨?_, ?_, ?_, ?_, ?_, ?_, ?_, ?_, ?_, ?_, ?_⟩
    · rw [ty, if_neg (by omega), if_neg (by omega), if_neg (by omega), if_neg (by omega), if_pos rfl]
    · rw [ty, if_neg (by omega), if_neg (by omega), if_neg (by omega), if_pos rfl]
    · rw [ty, if_neg (by omega), if_neg (by omega), if_pos rfl]
    · rw [ty, if_neg (by omega), if_pos rfl]
    · rw [ty, if_pos rfl]
    · rw [ln, if_neg (by omega), if_neg (by omega), if_pos rfl]
    · rw [ln, if_pos rfl]
    · show hCe (hSet (hSet (hSet h3 (hNx h + 3) 0 (hNx h + 4)) (hNx h) 1 (hNx h + 3)) (hNx h) 6 (-1)) (hNx h) 0 = _
      rw [cN (by omega), cN (by omega), cN (by omega)]
      show (if hNx h = hNx h + 1 + 1 + 1 + 1 then _ else if hNx h = hNx h + 1 + 1 + 1 then _ else hCe h2 (hNx h) 0) = _
      rw [if_neg (by omega), if_neg (by omega)]
      exact cS _ _ _ _
    · show hCe (hSet (hSet (hSet h3 (hNx h + 3) 0 (hNx h + 4)) (hNx h) 1 (hNx h + 3)) (hNx h) 6 (-1)) (hNx h) 1 = _
      rw [cN (by omega)]
      exact cS _ _ _ _
    · show hCe (hSet (hSet (hSet h3 (hNx h + 3) 0 (hNx h + 4)) (hNx h) 1 (hNx h + 3)) (hNx h) 6 (-1)) (hNx h + 1) 0 = _
      rw [cN (by omega), cN (by omega), cN (by omega)]
      show (if hNx h + 1 = hNx h + 1 + 1 + 1 + 1 then _ else if hNx h + 1 = hNx h + 1 + 1 + 1 then _ else hCe h2 (hNx h + 1) 0) = _
      rw [if_neg (by omega), if_neg (by omega)]
      show hCe (hSet (hSet h1 (hNx h + 1) 0 (hNx h + 2)) (hNx h) 0 (hNx h + 1)) (hNx h + 1) 0 = _
      rw [cN (by omega)]
      exact cS _ _ _ _
    · show hCe (hSet (hSet (hSet h3 (hNx h + 3) 0 (hNx h + 4)) (hNx h) 1 (hNx h + 3)) (hNx h) 6 (-1)) (hNx h + 3) 0 = _
      rw [cN (by omega), cN (by omega)]
      exact cS _ _ _ _
theorem Sh.grow {P : Int → Int → Prop} {h h' : AH} (H : Sh h) (G : Gr P h h') (q : ∀ b j, b < 52 → P b j → Mut b j) (q2 : ∀ b j, 52 ≤ b → ¬ P b j) {n : Nat} (hn : hNx h = blkA n) (n1 : n < 110) (nx : hNx h' = hNx h + 5) (wd : hWd h' = hWd h + 65) (B : Blk h' (hNx h)) : Sh h' := by
  obtain ⟨h1, h2, h3, m, h4, h5, h6, h7⟩ := H
  have em : m = n := by unfold blkA at *; omega
  subst em
  have c : ∀ b j, b < 52 → ¬ Mut b j → hCe h' b j = hCe h b j := fun b j x z => G.2.1 b j (by unfold blkA at *; omega) fun y => z (q b j x y)
  refine ⟨fun k hk => ?_, fun e he => ?_, fun j hj => ?_, m + 1, by rw [nx, h4]; unfold blkA; omega, by omega, by rw [wd, h6]; omega, fun b hb => ?_⟩
  · have := G.1 (k : Int) (by unfold blkA at *; omega)
    rw [this.1, this.2]
    exact h1 k hk
  · have l52 : (e.1 : Int) < 52 := by
      have h : ∀ e ∈ shP, e.1 < 52 := by decide
      have := h e he
      omega
    exact (c _ _ l52 (mut_ptr e he)).trans (h2 e he)
  · exact (c _ _ (by omega) (by unfold Mut MutA MutB MutM MutL; omega)).trans (h3 j hj)
  · by_cases z : b = m
    · subst z; rw [← h4]; exact B
    · have Bb := h7 b (by omega)
      refine Bb.gr G (by unfold blkA at *; omega) (q2 _ _ (by unfold blkA; omega)) (q2 _ _ (by unfold blkA; omega)) (q2 _ _ (by unfold blkA; omega)) (q2 _ _ (by unfold blkA; omega))
/-! ### copies -/
theorem cC {h : AH} {a sp b dp n c j : Int} : hCe (hCpy h a sp b dp n) c j = if c = b ∧ dp ≤ j ∧ j < dp + n then hCe h a (sp + (j - dp)) else hCe h c j := rfl
theorem s_sideCopy {h : AH} {s t : Int} {l : List RW} (S : SB h s) (T : SD h t l) (q : s + 1 < t ∨ t + 1 < s) : ∃ h', Side_copy s t h = some h' ∧ Fr (SK s) h h' ∧ SD h' s l := by
  obtain ⟨a1, a2, a3, a4⟩ := S
  obtain ⟨⟨b1, b2, b3, b4⟩, c1, c2, c3⟩ := T
  let h1 := hSet h s 1 (l.length : Int)
  let h2 := hCpy h1 (t + 1) 0 (s + 1) 0 27
  have F : Fr (SK s) h h2 := by
    refine ⟨⟨rfl, rfl, rfl⟩, fun b j z => ?_⟩
    show hCe (hCpy h1 (t + 1) 0 (s + 1) 0 27) b j = _
    rw [cC, if_neg (fun y => z (Or.inr y.1))]
    exact cN (by unfold SK at z; omega)
  refine ⟨h2, ?_, F, ⟨a1, by rw [F.2 _ _ (by unfold SK; omega)]; exact a2, a3, a4⟩, ?_, c2, fun i hi => ?_⟩
  · unfold Side_copy
    refine gB b1 ?_
    rw [c1]
    refine gB a1 ?_
    refine gB b1 ?_
    rw [cN (b := t) (j := 0) (by omega), b2]
    refine gB a1 ?_
    rw [cN (b := s) (j := 0) (by omega), a2]
    refine gB a1 ?_
    refine gB (by show 21 ≤ hTy h (s + 1); omega) ?_
    rw [show hLn (hSet h s 1 (l.length : Int)) (s + 1) = 27 from a4]
    refine gB ⟨b3, a3, Int.le_refl 0, Int.le_refl 0, by omega, by show 0 + 27 ≤ hLn h (t + 1); omega, by omega⟩ ?_
    rfl
  · show hCe (hCpy h1 (t + 1) 0 (s + 1) 0 27) s 1 = _
    rw [cC, if_neg (by omega)]
    exact cS _ _ _ _
  · have := c3 i hi
    have e : ∀ j : Int, 0 ≤ j → j < 27 → hCe h2 (s + 1) j = hCe h (t + 1) j := fun j j0 j1 => by
      show hCe (hCpy h1 (t + 1) 0 (s + 1) 0 27) (s + 1) j = _
      rw [cC, if_pos (by omega), show (0 : Int) + (j - 0) = j by omega]
      exact cN (by omega)
    unfold rwAt at *
    rw [e _ (by omega) (by omega), e _ (by omega) (by omega), e _ (by omega) (by omega)]
    exact this
theorem s_lineCopy {h : AH} {a b : Int} {l : LN} (B : Blk h a) (L : LD h b l) (q : a + 4 < b ∨ b + 4 < a) : ∃ h', Line_copy a b h = some h' ∧ Fr (LK a) h h' ∧ LD h' a l ∧ hCe h' a 6 = hCe h b 6 := by
  let h1 := hSet (hSet (hSet (hSet h a 2 l.1.1) a 3 l.1.2.1) a 4 l.1.2.2.1) a 5 l.1.2.2.2
  have F1 : Fr (fun x y => x = a ∧ 2 ≤ y) h h1 := Fr.setT (Fr.setT (Fr.setT (Fr.set ⟨rfl, by omega⟩) ⟨rfl, by omega⟩) ⟨rfl, by omega⟩) ⟨rfl, by omega⟩
  have B1 : Blk h1 a := B.fr F1 (by omega) (by omega) (by omega) (by omega)
  have L1 : LD h1 b l := L.fr F1 fun x y _ _ _ z => by omega
  obtain ⟨h2, e2, F2, S2⟩ := s_sideCopy B1.d L1.2.2.1 (by omega)
  have B2 : Blk h2 a := B1.fr F2 (by unfold SK; omega) (by unfold SK; omega) (by unfold SK; omega) (by unfold SK; omega)
  have L2 : LD h2 b l := L1.fr F2 fun x y _ _ _ z => by unfold SK at z; omega
  obtain ⟨h3, e3, F3, S3⟩ := s_sideCopy B2.u L2.2.2.2 (by omega)
  have B3 : Blk h3 a := B2.fr F3 (by unfold SK; omega) (by unfold SK; omega) (by unfold SK; omega) (by unfold SK; omega)
  have c6 : hCe h3 b 6 = hCe h b 6 := (F3.2 _ _ (by unfold SK; omega)).trans ((F2.2 _ _ (by unfold SK; omega)).trans (F1.2 _ _ (by omega)))
  let h4 := hSet h3 a 6 (hCe h b 6)
  have F4 : Fr (fun x y => x = a ∧ y = 6) h3 h4 := Fr.set ⟨rfl, rfl⟩
  have hd : ∀ j : Int, j = 2 ∨ j = 3 ∨ j = 4 ∨ j = 5 → hCe h4 a j = hCe h1 a j := fun j hj => (F4.2 _ _ (by omega)).trans ((F3.2 _ _ (by unfold SK; omega)).trans (F2.2 _ _ (by unfold SK; omega)))
  refine ⟨h4, ?_, (F1.mo fun x y z => Or.inl z).tr ((F2.mo fun x y z => Or.inr (Or.inl z)).tr ((F3.mo fun x y z => Or.inr (Or.inr z)).tr (F4.mo fun x y z => Or.inl (by omega)))), ⟨B3.fr F4 (by omega) (by omega) (by omega) (by omega), ⟨?_, ?_, ?_, ?_⟩, ?_, ?_⟩, cS _ _ _ _⟩
  · obtain ⟨g1, g2, g3, g4⟩ := L.2.1
    unfold Line_copy
    refine gB L.1.t ?_
    rw [g1]
    refine gB B.t ?_
    refine gB L.1.t ?_
    rw [cN (b := b) (j := 3) (by omega), g2]
    refine gB B.t ?_
    refine gB L.1.t ?_
    rw [cN (b := b) (j := 4) (by omega), cN (b := b) (j := 4) (by omega), g3]
    refine gB B.t ?_
    refine gB L.1.t ?_
    rw [cN (b := b) (j := 5) (by omega), cN (b := b) (j := 5) (by omega), cN (b := b) (j := 5) (by omega), g4]
    refine gB B.t ?_
    show ((gd (hTy h1 a = 4) (hCe h1 a 0)).bind fun u9 => _) = _
    refine gB B1.t ?_
    refine gB L1.1.t ?_
    rw [B1.p0, L1.1.p0]
    refine gB B1.d.1 ?_
    refine cB e2 ?_
    refine gB B2.t ?_
    refine gB L2.1.t ?_
    rw [B2.p1, L2.1.p1]
    refine gB B2.u.1 ?_
    refine cB e3 ?_
    refine gB (by rw [F3.1.ty]; exact L2.1.t) ?_
    rw [c6]
    exact gB B3.t rfl
  · rw [hd _ (by omega)]
    show hCe (hSet (hSet (hSet (hSet h a 2 l.1.1) a 3 l.1.2.1) a 4 l.1.2.2.1) a 5 l.1.2.2.2) a 2 = _
    rw [cN (by omega), cN (by omega), cN (by omega), cS]
  · rw [hd _ (by omega)]
    show hCe (hSet (hSet (hSet (hSet h a 2 l.1.1) a 3 l.1.2.1) a 4 l.1.2.2.1) a 5 l.1.2.2.2) a 3 = _
    rw [cN (by omega), cN (by omega), cS]
  · rw [hd _ (by omega)]
    show hCe (hSet (hSet (hSet (hSet h a 2 l.1.1) a 3 l.1.2.1) a 4 l.1.2.2.1) a 5 l.1.2.2.2) a 4 = _
    rw [cN (by omega), cS]
  · rw [hd _ (by omega)]
    exact cS _ _ _ _
  · exact (S2.frS F3 (by omega)).fr F4 (by omega) (by omega) (fun j => by omega)
  · exact S3.fr F4 (by omega) (by omega) (fun j => by omega)
