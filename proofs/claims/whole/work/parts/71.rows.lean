/-! rows altered and cut -/
def putS (l : LN) (v : Int) (rs : List RW) : LN := if v = 0 then (l.1, rs, l.2.2) else (l.1, l.2.1, rs)
theorem LD.sdP {h h' : AH} {a v : Int} {l : LN} {rs : List RW} (L : LD h a l) (F : Fr (SK (sdA a v)) h h') (S : SD h' (sdA a v) rs) : LD h' a (putS l v rs) := by
  unfold sdA putS at *
  by_cases q : v = 0
  · rw [if_pos q] at *
    exact L.side F (fun b j z => Or.inl z) S (L.2.2.2.frS F (by omega))
  · rw [if_neg q] at *
    exact L.side F (fun b j z => Or.inr z) (L.2.2.1.frS F (by omega)) S
theorem LD.s6 {h : AH} {a v : Int} {l : LN} (L : LD h a l) : LD (hSet h a 6 v) a l := by
  have hh := L.2.1
  refine L.hd (Fr.set ⟨rfl, by omega⟩) ?_
  unfold hdAt at *
  rw [cN (by omega), cN (by omega), cN (by omega), cN (by omega)]
  exact hh
theorem sdA_lk {a v b j : Int} (z : SK (sdA a v) b j) : LK a b j := by
  unfold sdA at z
  by_cases q : v = 0
  · rw [if_pos q] at z; exact Or.inr (Or.inl z)
  · rw [if_neg q] at z; exact Or.inr (Or.inr z)
theorem sdA_bd {a v : Int} : sdA a v = a + 1 ∨ sdA a v = a + 3 := by
  unfold sdA
  split
  · exact Or.inl rfl
  · exact Or.inr rfl
theorem ok_put {l : LN} {v : Int} {rs : List RW} (ok : okL l) (c : ∀ r ∈ rs, okR r ∧ (v = 0 → okB r.2.2) ∧ (v ≠ 0 → r.2.2 = 0)) (n : sdO l v = [] → rs = []) : okL (putS l v rs) := by
  obtain ⟨o1, o2, o3, o4, o5, o6, o7, o8, o9⟩ := ok
  unfold putS sdO at *
  by_cases q : v = 0
  · rw [if_pos q] at n ⊢
    exact ⟨o1, o2, o3, fun r hr => ⟨(c r hr).1, (c r hr).2.1 q⟩, o5, fun z => n (o6 z), o7, o8, o9⟩
  · rw [if_neg q] at n ⊢
    exact ⟨o1, o2, o3, o4, fun r hr => ⟨(c r hr).1, (c r hr).2.2 q⟩, o6, fun z => n (o7 z), o8, o9⟩
theorem ok_sd {l : LN} {v : Int} (ok : okL l) : ∀ r ∈ sdO l v, okR r ∧ (v = 0 → okB r.2.2) ∧ (v ≠ 0 → r.2.2 = 0) := by
  obtain ⟨o1, o2, o3, o4, o5, o6, o7, o8, o9⟩ := ok
  unfold sdO
  by_cases q : v = 0
  · rw [if_pos q]; exact fun r hr => ⟨(o4 r hr).1, fun _ => (o4 r hr).2, fun z => absurd q z⟩
  · rw [if_neg q]; exact fun r hr => ⟨(o5 r hr).1, fun z => absurd z q, fun _ => (o5 r hr).2⟩
/-! ### alter -/
def rwGet (r : RW) (c : Nat) : Int := match c with
  | 0 => r.1
  | 1 => r.2.1
  | _ => r.2.2
abbrev ftP (v w x : Int) : Prop := (w = 0 ∧ 2 ≤ x ∧ x ≤ 1000000000) ∨ (w = 1 ∧ 1 ≤ x ∧ x ≤ 30) ∨ (w = 2 ∧ v = 0 ∧ 2 ≤ x ∧ x ≤ 999)
theorem s_fits {v w x : Int} : Side_fits v w x = some (b2i (decide (ftP v w x))) := by
  unfold Side_fits
  by_cases w0 : w = 0
  · rw [if_pos w0]
    refine cB (s_isNumber x) ?_
    by_cases q : 2 ≤ x ∧ x ≤ 1000000000
    · rw [if_pos q, decide_eq_true (Or.inl ⟨w0, q⟩)]; exact gB (by decide) rfl
    · rw [if_neg q, decide_eq_false (show ¬ ftP v w x by unfold ftP; omega)]; exact gB (by decide) rfl
  rw [if_neg w0]
  by_cases w1 : w = 1
  · rw [if_pos w1]
    by_cases q1 : x < 1
    · rw [if_pos q1, decide_eq_false (show ¬ ftP v w x by unfold ftP; omega)]; rfl
    rw [if_neg q1]
    by_cases q2 : 30 < x
    · rw [if_pos q2, decide_eq_false (show ¬ ftP v w x by unfold ftP; omega)]; rfl
    rw [if_neg q2, decide_eq_true (show ftP v w x by unfold ftP; omega)]; rfl
  rw [if_neg w1]
  by_cases w2 : w = 2
  · rw [if_pos w2]
    by_cases v0 : v = 0
    · rw [if_pos v0]
      by_cases q1 : x < 2
      · rw [if_pos q1, decide_eq_false (show ¬ ftP v w x by unfold ftP; omega)]; rfl
      rw [if_neg q1]
      by_cases q2 : 999 < x
      · rw [if_pos q2, decide_eq_false (show ¬ ftP v w x by unfold ftP; omega)]; rfl
      rw [if_neg q2, decide_eq_true (show ftP v w x by unfold ftP; omega)]; rfl
    · rw [if_neg v0, decide_eq_false (show ¬ ftP v w x by unfold ftP; omega)]; rfl
  rw [if_neg w2, decide_eq_false (show ¬ ftP v w x by unfold ftP; omega)]; rfl
theorem s_canBe {w x : Int} (hw : 0 ≤ w ∧ w ≤ 2) : R_canBe w x = some (b2i (decide (ftP 0 w x))) := by
  unfold R_canBe
  by_cases w0 : w = 0
  · rw [if_pos w0]
    refine cB s_RisNumber ?_
    refine gB (by cases decide (2 ≤ x ∧ x ≤ 1000000000) <;> decide) ?_
    congr 2
    exact decide_eq_decide.mpr (by unfold ftP; omega)
  rw [if_neg w0]
  by_cases w1 : w = 1
  · rw [if_pos w1]
    refine cB s_Rin ?_
    refine gB (by cases decide (1 ≤ x ∧ x ≤ 30) <;> decide) ?_
    congr 2
    exact decide_eq_decide.mpr (by unfold ftP; omega)
  rw [if_neg w1]
  refine cB s_Rin ?_
  refine gB (by cases decide (2 ≤ x ∧ x ≤ 999) <;> decide) ?_
  congr 2
  exact decide_eq_decide.mpr (by unfold ftP; omega)
theorem s_cellC {h : AH} {s : Int} {l : List RW} (S : SD h s l) {i : Nat} (hi : i < l.length) {c : Nat} (hc : c < 3) : Side_cell s i c h = some (rwGet (gt l i) c) := by
  match c, hc with
  | 0, _ => exact s_cell0 S hi
  | 1, _ => exact s_cell1 S hi
  | 2, _ => exact s_cell2 S hi
theorem ok_rwS {v : Int} {c : Nat} (hc : c < 3) {x : Int} (f : ftP v c x) {r : RW} (o : okR r ∧ (v = 0 → okB r.2.2) ∧ (v ≠ 0 → r.2.2 = 0)) : okR (rwSet r c x) ∧ (v = 0 → okB (rwSet r c x).2.2) ∧ (v ≠ 0 → (rwSet r c x).2.2 = 0) := by
  obtain ⟨⟨a1, a2, a3, a4⟩, b, d⟩ := o
  match c, hc with
  | 0, _ => exact ⟨⟨by unfold ftP at f; show 2 ≤ x; omega, by unfold ftP at f; show x ≤ _; omega, a3, a4⟩, b, d⟩
  | 1, _ => exact ⟨⟨a1, a2, by unfold ftP at f; show 1 ≤ x; omega, by unfold ftP at f; show x ≤ 30; omega⟩, b, d⟩
  | 2, _ => exact ⟨⟨a1, a2, a3, a4⟩, fun _ => by unfold ftP at f; show 2 ≤ x ∧ x ≤ 999; omega, fun z => by unfold ftP at f; omega⟩
/-- a place of a row of the reference is changed -/
theorem LM.alt {h : AH} {k j c : Nat} {l : LN} (L : LM h k l) {v x A : Int} (hj : j < (sdO l v).length) (hA : (v = 0 ∧ A = 39 + (c : Int) ∧ c < 3) ∨ (v ≠ 0 ∧ A = 42 + (c : Int) ∧ c < 2)) : LM (hSet h A (9 * (k : Int) + j) x) k (putS l v ((sdO l v).set j (rwSet (gt (sdO l v) j) c x))) := by
  obtain ⟨a, ⟨d1, d2, d3, d4⟩, u1, u2, u3⟩ := L
  have e : ∀ b q : Int, (b ≠ A ∨ q ≠ 9 * (k : Int) + j) → hCe (hSet h A (9 * (k : Int) + j) x) b q = hCe h b q := fun b q z => cN z
  unfold sdO putS at *
  rcases hA with ⟨v0, hA, hc⟩ | ⟨v0, hA, hc⟩
  · simp only [if_pos v0] at hj ⊢
    refine ⟨?_, ⟨?_, by rw [List.length_set]; exact d2, fun i hi => ?_, fun i hi => ?_⟩, (e _ _ (by omega)).trans u1, u2, fun i hi => ?_⟩
    · unfold hdM at *
      rw [e _ _ (by omega), e _ _ (by omega), e _ _ (by omega), e _ _ (by omega)]
      exact a
    · rw [List.length_set]; exact (e _ _ (by omega)).trans d1
    · rw [List.length_set] at hi
      have d := d3 i hi
      show _ = (gt (l.2.1.set j _) i).1 ∧ _ = (gt (l.2.1.set j _) i).2.1
      rw [gt_set hj]
      by_cases q : i = j
      · subst q
        rw [if_pos rfl]
        match c, hc with
        | 0, _ => exact ⟨by rw [hA]; exact cS _ _ _ _, (e _ _ (by omega)).trans d.2⟩
        | 1, _ => exact ⟨(e _ _ (by omega)).trans d.1, by rw [hA]; exact cS _ _ _ _⟩
        | 2, _ => exact ⟨(e _ _ (by omega)).trans d.1, (e _ _ (by omega)).trans d.2⟩
      · rw [if_neg q, e _ _ (by omega), e _ _ (by omega)]; exact d
    · rw [List.length_set] at hi
      have d := d4 i hi
      show _ = (gt (l.2.1.set j _) i).2.2
      rw [gt_set hj]
      by_cases q : i = j
      · subst q
        rw [if_pos rfl]
        match c, hc with
        | 0, _ => exact (e _ _ (by omega)).trans d
        | 1, _ => exact (e _ _ (by omega)).trans d
        | 2, _ => rw [hA]; exact cS _ _ _ _
      · rw [if_neg q, e _ _ (by omega)]; exact d
    · rw [e _ _ (by omega), e _ _ (by omega)]; exact u3 i hi
  · simp only [if_neg v0] at hj ⊢
    refine ⟨?_, ⟨(e _ _ (by omega)).trans d1, d2, fun i hi => ?_, fun i hi => (e _ _ (by omega)).trans (d4 i hi)⟩, ?_, by rw [List.length_set]; exact u2, fun i hi => ?_⟩
    · unfold hdM at *
      rw [e _ _ (by omega), e _ _ (by omega), e _ _ (by omega), e _ _ (by omega)]
      exact a
    · rw [e _ _ (by omega), e _ _ (by omega)]; exact d3 i hi
    · rw [List.length_set]; exact (e _ _ (by omega)).trans u1
    · rw [List.length_set] at hi
      have d := u3 i hi
      show _ = (gt (l.2.2.set j _) i).1 ∧ _ = (gt (l.2.2.set j _) i).2.1
      rw [gt_set hj]
      by_cases q : i = j
      · subst q
        rw [if_pos rfl]
        match c, hc with
        | 0, _ => exact ⟨by rw [hA]; exact cS _ _ _ _, (e _ _ (by omega)).trans d.2⟩
        | 1, _ => exact ⟨(e _ _ (by omega)).trans d.1, by rw [hA]; exact cS _ _ _ _⟩
      · rw [if_neg q, e _ _ (by omega), e _ _ (by omega)]; exact d
theorem q_alter (hM : MRok) (i v j w x : Int) : sim (fun h => X_alter 0 i v j w x h) (fun h => R_alter 27 i v j w x h) := mk_sim fun ls tp ok => by
  have l60 := ok.1
  by_cases q : rowOK ls i v j
  · obtain ⟨⟨i0, i1⟩, j0, j1⟩ := id q
    obtain ⟨k, rfl⟩ := Int.eq_ofNat_of_zero_le i0
    obtain ⟨n, rfl⟩ := Int.eq_ofNat_of_zero_le j0
    have hk : k < ls.length := by omega
    have j1' : n < (sdO (gl ls k) v).length := by have : (n : Int) < ((sdO (gl ls k) v).length : Int) := j1; omega
    have okl := ok.2.1 k hk
    by_cases f : ftP v w x
    · obtain ⟨c, rfl⟩ := Int.eq_ofNat_of_zero_le (show 0 ≤ w by unfold ftP at f; omega)
      have hc : c < 3 := by unfold ftP at f; omega
      have okn : okL (putS (gl ls k) v ((sdO (gl ls k) v).set n (rwSet (gt (sdO (gl ls k) v) n) c x))) := by
        refine ok_put okl (fun r hr => ?_) fun z => by rw [z]; rfl
        rcases List.mem_or_eq_of_mem_set hr with y | y
        · exact ok_sd okl r y
        · rw [y]; exact ok_rwS hc f (ok_sd okl _ (gt_mem j1'))
      refine ⟨rwGet (gt (sdO (gl ls k) v) n) c, _, tp, xC.ch hM hk okn fun h hw dw U => ?_, rC.ch hk okn fun h m => ?_⟩
      · have H := U.1.1
        have L := U.1.ln hk
        have S := L.sd v
        have p := U.1.pr hk
        have sb := sdA_bd (a := hCe h 2 k) (v := v)
        obtain ⟨h', e', F', S'⟩ := s_put S j1' hc (v := x)
        have F1 : Fr (SK (sdA (hCe h 2 k) v)) h h' := F'.mo fun b j z => Or.inr z.1
        have L1 := L.sdP F1 S'
        have F2 : Fr (LK (hCe h 2 k)) h h' := F1.mo fun b j => sdA_lk
        have H' := H.fr F2 fun b j => LK.mut (BA_of p)
        refine ⟨hSet h' (hCe h 2 k) 6 (-1), F2.setT (Or.inl ⟨rfl, by omega⟩), L1.s6, Or.inl (cS _ _ _ _), fun h2 F3 U2 e => ?_⟩
        show X_alter 0 k v n c x h = _
        unfold X_alter
        refine gB H.t0 ?_
        rw [H.p0_0]
        refine gB H.t1 ?_
        refine row_if U.1 ?_
        rw [if_pos q]
        refine cB s_fits ?_
        rw [decide_eq_true f]
        refine ifF one_ne ?_
        refine gB H.t0 ?_
        refine gB H.t1 ?_
        rw [H.p1_0]
        refine U.1.lnA hk ?_
        refine gB L.1.1 ?_
        refine cB (s_sideA L) ?_
        refine gB S.1.1 ?_
        refine cB (s_cellC S j1' hc) ?_
        refine gB S.1.1 ?_
        refine cB e' ?_
        refine gB L1.1.1 ?_
        refine gB (by rw [tS]; exact H'.t0) ?_
        rw [cN (by omega), H'.p0_0]
        refine gB (by rw [tS]; exact H'.t1) ?_
        exact cB e rfl
      · have H := m.1
        have L := (m.2.1.2.2 k hk).1
        obtain ⟨n9, r1, r2⟩ := L.rw j1' fun _ r hr => (okl.2.2.2.2.1 r hr).2
        have g : ∀ A : Int, (v = 0 ∧ A = 39 + (c : Int) ∧ c < 3) ∨ (v ≠ 0 ∧ A = 42 + (c : Int) ∧ c < 2) → hCe h A (9 * (k : Int) + n) = rwGet (gt (sdO (gl ls k) v) n) c ∧ hTy h A = 21 ∧ 9 * (k : Int) + n < hLn h A := fun A hA => by
          rcases hA with ⟨v0, hA, h3⟩ | ⟨v0, hA, h3⟩
          · have r := r1 v0
            match c, h3 with
            | 0, _ => exact ⟨by rw [hA]; exact r.1, by rw [hA]; exact H.t39, by rw [hA]; show _ < hLn h 39; rw [H.l39]; omega⟩
            | 1, _ => exact ⟨by rw [hA]; exact r.2.1, by rw [hA]; exact H.t40, by rw [hA]; show _ < hLn h 40; rw [H.l40]; omega⟩
            | 2, _ => exact ⟨by rw [hA]; exact r.2.2, by rw [hA]; exact H.t41, by rw [hA]; show _ < hLn h 41; rw [H.l41]; omega⟩
          · have r := r2 v0
            match c, h3 with
            | 0, _ => exact ⟨by rw [hA]; exact r.1, by rw [hA]; exact H.t42, by rw [hA]; show _ < hLn h 42; rw [H.l42]; omega⟩
            | 1, _ => exact ⟨by rw [hA]; exact r.2.1, by rw [hA]; exact H.t43, by rw [hA]; show _ < hLn h 43; rw [H.l43]; omega⟩
        have fin : ∀ A : Int, (v = 0 ∧ A = 39 + (c : Int) ∧ c < 3) ∨ (v ≠ 0 ∧ A = 42 + (c : Int) ∧ c < 2) → R_alter_95 k n x A h = some (rwGet (gt (sdO (gl ls k) v) n) c, hSet h A (9 * (k : Int) + n) x) := fun A hA => by
          obtain ⟨g1, g2, g3⟩ := g A hA
          unfold R_alter_95
          rw [w32_e (z := 9 * (k : Int)) (by omega), w32_e (z := 9 * (k : Int) + n) (by omega)]
          refine gB ⟨g2, by omega, g3⟩ ?_
          refine gB ⟨g2, by omega, g3⟩ ?_
          rw [g1]
        have res : ∀ A : Int, (v = 0 ∧ A = 39 + (c : Int) ∧ c < 3) ∨ (v ≠ 0 ∧ A = 42 + (c : Int) ∧ c < 2) → R_alter 27 k v n c x h = R_alter_95 k n x A h → ∃ h1, R_alter 27 k v n c x h = some (rwGet (gt (sdO (gl ls k) v) n) c, h1) ∧ Fr (MK k) h h1 ∧ LM h1 k (putS (gl ls k) v ((sdO (gl ls k) v).set n (rwSet (gt (sdO (gl ls k) v) n) c x))) := fun A hA e => ⟨_, e.trans (fin A hA), Fr.set (by unfold MK; omega), L.alt j1' hA⟩
        have pre : ∀ {s0 : Int} {r}, ((0 : Int) ≤ c ∧ (c : Int) ≤ s0) → (if (c : Int) = 2 then R_alter_95 k n x 41 h else if (c : Int) = 1 then (if v = 0 then R_alter_95 k n x 40 h else R_alter_95 k n x 43 h) else (if v = 0 then R_alter_95 k n x 39 h else R_alter_95 k n x 42 h)) = r → R_alter_25 27 k v n c x s0 0 c h = r := by
          rintro s0 r hs rfl
          unfold R_alter_25
          refine rin_if ?_
          rw [if_pos hs]
          refine cB (s_canBe (by omega)) ?_
          rw [decide_eq_true (show ftP 0 c x by unfold ftP at f ⊢; omega)]
          refine ifF one_ne ?_
          congr 1
          · refine gB H.t27 ?_
            rw [H.p27_16]
          · congr 1
            · congr 1
              · refine gB H.t27 ?_
                rw [H.p27_15]
              · refine gB H.t27 ?_
                rw [H.p27_18]
            · congr 1
              · refine gB H.t27 ?_
                rw [H.p27_14]
              · refine gB H.t27 ?_
                rw [H.p27_17]
        have hd : ∀ {r}, (if v = 0 then R_alter_25 27 k v n c x 2 0 c h else R_alter_25 27 k v n c x 1 0 c h) = r → R_alter 27 k v n c x h = r := by
          rintro r rfl
          unfold R_alter
          refine gB H.t27 ?_
          refine rrow_if m ?_
          rw [if_pos q]
        by_cases v0 : v = 0
        · refine res (39 + (c : Int)) (Or.inl ⟨v0, rfl, hc⟩) (hd ((if_pos v0).trans (pre (by omega) ?_)))
          match c, hc with
          | 0, _ => rw [if_neg (by omega), if_neg (by omega), if_pos v0]; rfl
          | 1, _ => rw [if_neg (by omega), if_pos (by omega), if_pos v0]; rfl
          | 2, _ => rw [if_pos (by omega)]; rfl
        · have c2 : c < 2 := by unfold ftP at f; omega
          refine res (42 + (c : Int)) (Or.inr ⟨v0, rfl, c2⟩) (hd ((if_neg v0).trans (pre (by omega) ?_)))
          match c, c2 with
          | 0, _ => rw [if_neg (by omega), if_neg (by omega), if_neg v0]; rfl
          | 1, _ => rw [if_neg (by omega), if_pos (by omega), if_neg v0]; rfl
    · refine ⟨-1, ls, tp, xC.keep fun h hw dw U t => ?_, rC.keep fun h m => ?_⟩
      · have H := U.1.1
        show X_alter 0 k v n w x h = _
        unfold X_alter
        refine gB H.t0 ?_
        rw [H.p0_0]
        refine gB H.t1 ?_
        refine row_if U.1 ?_
        rw [if_pos q]
        refine cB s_fits ?_
        rw [decide_eq_false f]
        exact ifT rfl rfl
      · show R_alter 27 k v n w x h = _
        unfold R_alter
        refine gB m.1.t27 ?_
        refine rrow_if m ?_
        rw [if_pos q]
        have no : ∀ s0 : Int, (0 ≤ w ∧ w ≤ s0 → s0 ≤ 2 ∧ ¬ ftP 0 w x) → R_alter_25 27 k v n w x s0 0 w h = some (-1, h) := fun s0 hs => by
          unfold R_alter_25
          refine rin_if ?_
          by_cases y : 0 ≤ w ∧ w ≤ s0
          · rw [if_pos y]
            refine cB (s_canBe (by have := (hs y).1; omega)) ?_
            rw [decide_eq_false (hs y).2]
            exact ifT rfl rfl
          · rw [if_neg y]
        by_cases v0 : v = 0
        · rw [if_pos v0]; exact no 2 fun y => ⟨by omega, by unfold ftP at f ⊢; omega⟩
        · rw [if_neg v0]; exact no 1 fun y => ⟨by omega, by unfold ftP at f ⊢; omega⟩
  · refine ⟨-1, ls, tp, xC.keep fun h hw dw U t => ?_, rC.keep fun h m => ?_⟩
    · have H := U.1.1
      show X_alter 0 i v j w x h = _
      unfold X_alter
      refine gB H.t0 ?_
      rw [H.p0_0]
      refine gB H.t1 ?_
      refine row_if U.1 ?_
      rw [if_neg q]
    · show R_alter 27 i v j w x h = _
      unfold R_alter
      refine gB m.1.t27 ?_
      refine rrow_if m ?_
      rw [if_neg q]
