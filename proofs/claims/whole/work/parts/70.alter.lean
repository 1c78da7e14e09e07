/-! one line of the ledger is changed: set, alter, cut -/
theorem xC.ch (hM : MRok) {X : AH → Option (Int × AH)} {ls : List LN} {tp : List Int} {r : Int} {i : Nat} {l : LN} (hi : i < ls.length) (ok : okL l) (c : ∀ h hw dw, FUL h hw dw ls → ∃ h1, Fr (LK (hCe h 2 i)) h h1 ∧ LD h1 (hCe h 2 i) l ∧ ltOK h1 (hCe h 2 i) l ∧ ∀ h2, Fr CK h1 h2 → FUL h2 hw dw (ls.set i l) → Ledger_checkFrom 1 i h1 = some h2 → X h = some (r, h2)) : xC X ls tp r (ls.set i l) tp := fun h x => by
  obtain ⟨⟨hw, dw, U⟩, t1, t2, t3, t4⟩ := x
  obtain ⟨h1, F, L, t, c2⟩ := c h hw dw U
  obtain ⟨h2, e, F2, U2⟩ := s_changed hM U hi ok F L t
  have p := U.1.pr hi
  have n1 : ∀ b j, b < 52 → hCe h1 b j = hCe h b j := fun b j y => F.2 _ _ fun z => by unfold LK SK at z; omega
  have n2 : ∀ b j, 6 ≤ b → b < 52 → hCe h2 b j = hCe h1 b j := fun b j y y2 => F2.2 _ _ fun z => by unfold CK at z; omega
  refine ⟨h2, c2 h2 F2 U2 e, ⟨⟨hw, dw, U2⟩, (n2 _ _ (by omega) (by omega)).trans ((n1 _ _ (by omega)).trans t1), t2, t3, fun j hj => (n2 _ _ (by omega) (by omega)).trans ((n1 _ _ (by omega)).trans (t4 j hj))⟩, (F.gr.mo fun b j z => ?_).tr (F2.gr.mo fun b j z => ?_)⟩
  · unfold LK SK at z; unfold CZ; omega
  · unfold CK at z; unfold CZ; omega
theorem MD.set {h h1 : AH} {ls : List LN} {i : Nat} {l : LN} (M : MD h ls) (hi : i < ls.length) (F : Fr (MK i) h h1) (L : LM h1 i l) (ok : okL l) : MD h1 (ls.set i l) := by
  have len : (ls.set i l).length = ls.length := List.length_set
  refine ⟨by rw [len, F.2 _ _ (by unfold MK; omega)]; exact M.1, by rw [len]; exact M.2.1, fun j hj => ?_⟩
  rw [len] at hj
  rw [gl_set hi]
  by_cases q : j = i
  · subst q; rw [if_pos rfl]; exact ⟨L, ok⟩
  · rw [if_neg q]
    exact ⟨(M.2.2 j hj).1.fr F fun b x y z => by unfold MK at y z; omega, (M.2.2 j hj).2⟩
theorem MK.mz {k : Nat} {b j : Int} (z : MK k b j) : MZ b j := ⟨z.mut, by unfold MK at z; omega⟩
theorem rC.ch {R : AH → Option (Int × AH)} {ls : List LN} {tp : List Int} {r : Int} {i : Nat} {l : LN} (hi : i < ls.length) (ok : okL l) (c : ∀ h, MS h ls tp → ∃ h1, R h = some (r, h1) ∧ Fr (MK i) h h1 ∧ LM h1 i l) : rC R ls tp r (ls.set i l) tp := fun h m => by
  obtain ⟨h1, e, F, L⟩ := c h m
  exact ⟨h1, e, ⟨m.1.fr F fun b j => MK.mut, m.2.1.set hi F L ok, (F.2 _ _ (by unfold MK; omega)).trans m.2.2.1, m.2.2.2.1, m.2.2.2.2.1, fun j hj => (F.2 _ _ (by unfold MK; omega)).trans (m.2.2.2.2.2 j hj)⟩, F.mo fun b j => MK.mz⟩
theorem LD.hd {h h' : AH} {a : Int} {l : LN} (L : LD h a l) (F : Fr (fun b j => b = a ∧ 2 ≤ j) h h') {q : Int × Int × Int × Int} (c : hdAt h' a q) : LD h' a (q, l.2) :=
  ⟨L.1.fr F (by omega) (by omega) (by omega) (by omega), c, L.2.2.1.fr F (by omega) (by omega) (fun j => by omega), L.2.2.2.fr F (by omega) (by omega) (fun j => by omega)⟩
/-! ### set -/
theorem BA_of {a : Int} (h : 52 ≤ a ∧ (a - 52) % 5 = 0) : BA a := Or.inr h
theorem x125 {h h2 : AH} {k : Nat} {a v : Int} (H : Sh h) (t : hTy h a = 4) (e : Ledger_checkFrom 1 k (hSet h a 6 (-1)) = some h2) (ha : 52 ≤ a) : X_set_125 0 k a v h = some (v, h2) := by
  unfold X_set_125
  refine gB t ?_
  refine gB (by rw [tS]; exact H.t0) ?_
  rw [cN (by omega), H.p0_0]
  refine gB (by rw [tS]; exact H.t1) ?_
  exact cB e rfl
theorem x_setP {h : AH} {hw dw : Nat} {ls : List LN} (U : FUL h hw dw ls) {k : Nat} (hk : k < ls.length) {w x : Int} {r : Option (Int × AH)} (c : (if w = 0 then (Arithmetic_isNumber x).bind fun u6 => if u6 = 0 then X_set_51 0 k w x (hCe h 2 k) h else (gd (hTy h (hCe h 2 k) = 4) (hCe h (hCe h 2 k) 2)).bind fun u7 => (gd (hTy h (hCe h 2 k) = 4) (hSet h (hCe h 2 k) 2 x)).bind fun h8 => X_set_125 0 k (hCe h 2 k) u7 h8 else X_set_51 0 k w x (hCe h 2 k) h) = r) : X_set 0 k w x h = r := by
  have H := U.1.1
  unfold X_set
  refine gB H.t0 ?_
  rw [H.p0_0]
  refine gB H.t1 ?_
  refine has_if U.1 ?_
  rw [if_pos (by omega)]
  refine gB H.t0 ?_
  refine gB H.t1 ?_
  rw [H.p1_0]
  exact U.1.lnA hk c
theorem r_setP {h : AH} {ls : List LN} {tp : List Int} (m : MS h ls tp) {k : Nat} (hk : k < ls.length) {w x : Int} {r : Option (Int × AH)} (c : (if 0 ≤ w ∧ w ≤ 2 then (if 0 < w then (if (gl ls k).1.2.1 = 3 ∨ (gl ls k).1.2.1 = 4 then R_set_38 27 k w x h else some (-1, h)) else R_set_38 27 k w x h) else some (-1, h)) = r) : R_set 27 k w x h = r := by
  have H := m.1
  have l60 := m.2.1.2.1
  have c2 := (m.2.1.2.2 k hk).1.1.2.1
  unfold R_set
  refine gB H.t27 ?_
  refine rhas_if m ?_
  rw [if_pos (by omega)]
  refine rin_if ?_
  rw [← c]
  congr 1
  congr 1
  refine gB H.t27 ?_
  rw [H.p27_9]
  refine gB ⟨H.t34, by omega, by rw [H.l34]; omega⟩ ?_
  rw [c2]
  refine cB s_RhasPair ?_
  by_cases q : (gl ls k).1.2.1 = 3 ∨ (gl ls k).1.2.1 = 4
  · rw [decide_eq_true q, if_pos q]; exact ifF one_ne rfl
  · rw [decide_eq_false q, if_neg q]; exact ifT rfl rfl
theorem hpq_if {h : AH} {a : Int} {l : LN} (L : LD h a l) {α : Type} {A B r : Option α} (c : (if l.1.2.1 = 3 ∨ l.1.2.1 = 4 then B else A) = r) : ((Line_hasPQ a h).bind fun u => if u = 0 then A else B) = r := by
  refine cB (s_hasPQ L) ?_
  by_cases q : l.1.2.1 = 3 ∨ l.1.2.1 = 4
  · rw [if_pos q] at c; rw [decide_eq_true q]; exact ifF one_ne c
  · rw [if_neg q] at c; rw [decide_eq_false q]; exact ifT rfl c
theorem q_set (hM : MRok) (i w x : Int) : sim (fun h => X_set 0 i w x h) (fun h => R_set 27 i w x h) := mk_sim fun ls tp ok => by
  have l60 := ok.1
  by_cases q : 0 ≤ i ∧ i < ls.length
  · obtain ⟨k, rfl⟩ := Int.eq_ofNat_of_zero_le q.1
    have hk : k < ls.length := by omega
    have okl := ok.2.1 k hk
    obtain ⟨n, s, p, qq, D, E, hl⟩ : ∃ n s p qq D E, gl ls k = ((n, s, p, qq), D, E) := ⟨_, _, _, _, _, _, rfl⟩
    rw [hl] at okl
    obtain ⟨o1, o2, o3, o4, o5, o6, o7, o8, o9⟩ := okl
    have go : ∀ (c : Int) (q' : Int × Int × Int × Int), (c = 2 ∧ q' = (x, s, p, qq)) ∨ (c = 4 ∧ q' = (n, s, x, qq)) ∨ (c = 5 ∧ q' = (n, s, p, x)) → ∀ {h hw dw}, FUL h hw dw ls → Fr (LK (hCe h 2 k)) h (hSet (hSet h (hCe h 2 k) c x) (hCe h 2 k) 6 (-1)) ∧ LD (hSet (hSet h (hCe h 2 k) c x) (hCe h 2 k) 6 (-1)) (hCe h 2 k) (q', D, E) ∧ ltOK (hSet (hSet h (hCe h 2 k) c x) (hCe h 2 k) 6 (-1)) (hCe h 2 k) (q', D, E) := fun c q' hc h hw dw U => by
      have L := U.1.ln hk
      rw [hl] at L
      have hh := L.2.1
      have F : Fr (fun b j => b = hCe h 2 k ∧ 2 ≤ j) h (hSet (hSet h (hCe h 2 k) c x) (hCe h 2 k) 6 (-1)) := (Fr.set ⟨rfl, by omega⟩).setT ⟨rfl, by omega⟩
      refine ⟨F.mo fun b j z => Or.inl z, L.hd F ?_, Or.inl (cS _ _ _ _)⟩
      unfold hdAt at *
      rcases hc with ⟨rfl, rfl⟩ | ⟨rfl, rfl⟩ | ⟨rfl, rfl⟩
      · exact ⟨(cN (by omega)).trans (cS _ _ _ _), (cN (by omega)).trans ((cN (by omega)).trans hh.2.1), (cN (by omega)).trans ((cN (by omega)).trans hh.2.2.1), (cN (by omega)).trans ((cN (by omega)).trans hh.2.2.2)⟩
      · exact ⟨(cN (by omega)).trans ((cN (by omega)).trans hh.1), (cN (by omega)).trans ((cN (by omega)).trans hh.2.1), (cN (by omega)).trans (cS _ _ _ _), (cN (by omega)).trans ((cN (by omega)).trans hh.2.2.2)⟩
      · exact ⟨(cN (by omega)).trans ((cN (by omega)).trans hh.1), (cN (by omega)).trans ((cN (by omega)).trans hh.2.1), (cN (by omega)).trans ((cN (by omega)).trans hh.2.2.1), (cN (by omega)).trans (cS _ _ _ _)⟩
    have rgo : ∀ (c : Int) (q' : Int × Int × Int × Int), (c = 33 ∧ q' = (x, s, p, qq)) ∨ (c = 35 ∧ q' = (n, s, x, qq)) ∨ (c = 36 ∧ q' = (n, s, p, x)) → ∀ {h}, MS h ls tp → Fr (MK k) h (hSet h c k x) ∧ LM (hSet h c k x) k (q', D, E) := fun c q' hc h m => by
      have L := (m.2.1.2.2 k hk).1
      rw [hl] at L
      have hh := L.1
      have e : ∀ b j : Int, b ≠ c → hCe (hSet h c k x) b j = hCe h b j := fun b j y => cN (Or.inl y)
      have F : Fr (fun b j => b = c ∧ j = (k : Int)) h (hSet h c k x) := Fr.set ⟨rfl, rfl⟩
      refine ⟨F.mo fun b j z => by unfold MK; omega, ?_⟩
      obtain ⟨-, ⟨d1, d2, d3, d4⟩, u1, u2, u3⟩ := L
      refine ⟨?_, ⟨(e _ _ (by omega)).trans d1, d2, fun i hi => ?_, fun i hi => (e _ _ (by omega)).trans (d4 i hi)⟩, (e _ _ (by omega)).trans u1, u2, fun i hi => ?_⟩
      · unfold hdM at *
        rcases hc with ⟨rfl, rfl⟩ | ⟨rfl, rfl⟩ | ⟨rfl, rfl⟩
        · exact ⟨cS _ _ _ _, (e _ _ (by omega)).trans hh.2.1, (e _ _ (by omega)).trans hh.2.2.1, (e _ _ (by omega)).trans hh.2.2.2⟩
        · exact ⟨(e _ _ (by omega)).trans hh.1, (e _ _ (by omega)).trans hh.2.1, cS _ _ _ _, (e _ _ (by omega)).trans hh.2.2.2⟩
        · exact ⟨(e _ _ (by omega)).trans hh.1, (e _ _ (by omega)).trans hh.2.1, (e _ _ (by omega)).trans hh.2.2.1, cS _ _ _ _⟩
      · rw [e _ _ (by omega), e _ _ (by omega)]; exact d3 i hi
      · rw [e _ _ (by omega), e _ _ (by omega)]; exact u3 i hi
    have no51 : ∀ {h} {a : Int}, w ≠ 1 → w ≠ 2 → X_set_51 0 k w x a h = some (-1, h) := fun {h a} w1 w2 => by
      unfold X_set_51
      refine ifF w1 ?_
      unfold X_set_87
      exact ifF w2 rfl
    by_cases w0 : w = 0
    · by_cases nx : 2 ≤ x ∧ x ≤ 1000000000
      · refine ⟨n, ls.set k ((x, s, p, qq), D, E), tp, xC.ch hM hk ⟨nx, o2, o3, o4, o5, o6, o7, o8, o9⟩ fun h hw dw U => ?_, rC.ch hk ⟨nx, o2, o3, o4, o5, o6, o7, o8, o9⟩ fun h m => ?_⟩
        · obtain ⟨F, L', t⟩ := go 2 _ (Or.inl ⟨rfl, rfl⟩) U
          have L := U.1.ln hk
          have hh := L.2.1.1
          rw [hl] at hh
          refine ⟨_, F, L', t, fun h2 F2 U2 e => x_setP U hk ?_⟩
          rw [if_pos w0]
          refine num_if ?_
          rw [if_pos nx]
          refine gB L.1.1 ?_
          refine gB L.1.1 ?_
          rw [hh]
          exact x125 (U.1.1.fr (P := LK (hCe h 2 k)) (Fr.set (Or.inl ⟨rfl, by omega⟩)) fun b j => LK.mut (BA_of (U.1.pr hk))) (by rw [tS]; exact L.1.1) e (U.1.pr hk).1
        · obtain ⟨F, L'⟩ := rgo 33 _ (Or.inl ⟨rfl, rfl⟩) m
          have H := m.1
          have c := (m.2.1.2.2 k hk).1.1.1
          rw [hl] at c
          refine ⟨_, r_setP m hk ?_, F, L'⟩
          rw [if_pos (by omega), if_neg (by omega)]
          unfold R_set_38
          refine ifT w0 ?_
          refine rnum_if ?_
          rw [if_pos nx]
          unfold R_set_67
          refine ifT w0 ?_
          refine gB H.t27 ?_
          rw [H.p27_8]
          refine gB ⟨H.t33, by omega, by rw [H.l33]; omega⟩ ?_
          unfold R_set_100
          refine ifT w0 ?_
          refine gB H.t27 ?_
          rw [H.p27_8]
          refine gB ⟨H.t33, by omega, by rw [H.l33]; omega⟩ ?_
          rw [c]
      · refine ⟨-1, ls, tp, xC.keep fun h hw dw U t => x_setP U hk ?_, rC.keep fun h m => r_setP m hk ?_⟩
        · rw [if_pos w0]
          refine num_if ?_
          rw [if_neg nx]
          exact no51 (by omega) (by omega)
        · rw [if_pos (by omega), if_neg (by omega)]
          unfold R_set_38
          refine ifT w0 ?_
          refine rnum_if ?_
          rw [if_neg nx]
    by_cases w12 : w = 1 ∨ w = 2
    · by_cases s34 : s = 3 ∨ s = 4
      · by_cases px : 1 ≤ x ∧ x ≤ 99
        · rcases w12 with w1 | w2
          · have okn : okL ((n, s, x, qq), D, E) := ⟨o1, o2, o3, o4, o5, o6, o7, fun z => ⟨px, (o8 z).2⟩, fun z => absurd (show s ≤ 2 from z) (by omega)⟩
            refine ⟨p, ls.set k ((n, s, x, qq), D, E), tp, xC.ch hM hk okn fun h hw dw U => ?_, rC.ch hk okn fun h m => ?_⟩
            · obtain ⟨F, L', t⟩ := go 4 _ (Or.inr (Or.inl ⟨rfl, rfl⟩)) U
              have L := U.1.ln hk
              have hh := L.2.1.2.2.1
              rw [hl] at hh L
              refine ⟨_, F, L', t, fun h2 F2 U2 e => x_setP U hk ?_⟩
              rw [if_neg w0]
              unfold X_set_51
              refine ifT w1 ?_
              refine gB L.1.1 ?_
              refine hpq_if L ?_
              rw [if_pos s34]
              refine pq_if ?_
              rw [if_pos px]
              refine gB L.1.1 ?_
              refine gB L.1.1 ?_
              rw [hh]
              exact x125 (U.1.1.fr (P := LK (hCe h 2 k)) (Fr.set (Or.inl ⟨rfl, by omega⟩)) fun b j => LK.mut (BA_of (U.1.pr hk))) (by rw [tS]; exact L.1.1) e (U.1.pr hk).1
            · obtain ⟨F, L'⟩ := rgo 35 _ (Or.inr (Or.inl ⟨rfl, rfl⟩)) m
              have H := m.1
              have c := (m.2.1.2.2 k hk).1.1.2.2.1
              rw [hl] at c
              refine ⟨_, r_setP m hk ?_, F, L'⟩
              rw [if_pos (by omega), if_pos (by omega), hl, if_pos s34]
              unfold R_set_38
              refine ifF w0 ?_
              refine rin_if ?_
              rw [if_pos px]
              unfold R_set_67
              refine ifF w0 (ifT w1 ?_)
              refine gB H.t27 ?_
              rw [H.p27_10]
              refine gB ⟨H.t35, by omega, by rw [H.l35]; omega⟩ ?_
              unfold R_set_100
              refine ifF w0 (ifT w1 ?_)
              refine gB H.t27 ?_
              rw [H.p27_10]
              refine gB ⟨H.t35, by omega, by rw [H.l35]; omega⟩ ?_
              rw [c]
          · have okn : okL ((n, s, p, x), D, E) := ⟨o1, o2, o3, o4, o5, o6, o7, fun z => ⟨(o8 z).1, px⟩, fun z => absurd (show s ≤ 2 from z) (by omega)⟩
            have w1 : ¬ w = 1 := by omega
            refine ⟨qq, ls.set k ((n, s, p, x), D, E), tp, xC.ch hM hk okn fun h hw dw U => ?_, rC.ch hk okn fun h m => ?_⟩
            · obtain ⟨F, L', t⟩ := go 5 _ (Or.inr (Or.inr ⟨rfl, rfl⟩)) U
              have L := U.1.ln hk
              have hh := L.2.1.2.2.2
              rw [hl] at hh L
              refine ⟨_, F, L', t, fun h2 F2 U2 e => x_setP U hk ?_⟩
              rw [if_neg w0]
              unfold X_set_51
              refine ifF w1 ?_
              unfold X_set_87
              refine ifT w2 ?_
              refine gB L.1.1 ?_
              refine hpq_if L ?_
              rw [if_pos s34]
              refine pq_if ?_
              rw [if_pos px]
              refine gB L.1.1 ?_
              refine gB L.1.1 ?_
              rw [hh]
              exact x125 (U.1.1.fr (P := LK (hCe h 2 k)) (Fr.set (Or.inl ⟨rfl, by omega⟩)) fun b j => LK.mut (BA_of (U.1.pr hk))) (by rw [tS]; exact L.1.1) e (U.1.pr hk).1
            · obtain ⟨F, L'⟩ := rgo 36 _ (Or.inr (Or.inr ⟨rfl, rfl⟩)) m
              have H := m.1
              have c := (m.2.1.2.2 k hk).1.1.2.2.2
              rw [hl] at c
              refine ⟨_, r_setP m hk ?_, F, L'⟩
              rw [if_pos (by omega), if_pos (by omega), hl, if_pos s34]
              unfold R_set_38
              refine ifF w0 ?_
              refine rin_if ?_
              rw [if_pos px]
              unfold R_set_67
              refine ifF w0 (ifF w1 ?_)
              refine gB H.t27 ?_
              rw [H.p27_11]
              refine gB ⟨H.t36, by omega, by rw [H.l36]; omega⟩ ?_
              unfold R_set_100
              refine ifF w0 (ifF w1 ?_)
              refine gB H.t27 ?_
              rw [H.p27_11]
              refine gB ⟨H.t36, by omega, by rw [H.l36]; omega⟩ ?_
              rw [c]
        · refine ⟨-1, ls, tp, xC.keep fun h hw dw U t => x_setP U hk ?_, rC.keep fun h m => r_setP m hk ?_⟩
          · have L := U.1.ln hk
            rw [hl] at L
            have no87 : X_set_87 0 k w x (hCe h 2 k) h = some (-1, h) := by
              unfold X_set_87
              by_cases w2 : w = 2
              · refine ifT w2 ?_
                refine gB L.1.1 ?_
                refine hpq_if L ?_
                rw [if_pos s34]
                refine pq_if ?_
                rw [if_neg px]
              · exact ifF w2 rfl
            rw [if_neg w0]
            unfold X_set_51
            by_cases w1 : w = 1
            · refine ifT w1 ?_
              refine gB L.1.1 ?_
              refine hpq_if L ?_
              rw [if_pos s34]
              refine pq_if ?_
              rw [if_neg px]
              exact no87
            · exact ifF w1 no87
          · rw [if_pos (by omega), if_pos (by omega), hl, if_pos s34]
            unfold R_set_38
            refine ifF w0 ?_
            refine rin_if ?_
            rw [if_neg px]
      · refine ⟨-1, ls, tp, xC.keep fun h hw dw U t => x_setP U hk ?_, rC.keep fun h m => r_setP m hk ?_⟩
        · have L := U.1.ln hk
          rw [hl] at L
          have no87 : X_set_87 0 k w x (hCe h 2 k) h = some (-1, h) := by
            unfold X_set_87
            by_cases w2 : w = 2
            · refine ifT w2 ?_
              refine gB L.1.1 ?_
              refine hpq_if L ?_
              rw [if_neg s34]
            · exact ifF w2 rfl
          rw [if_neg w0]
          unfold X_set_51
          by_cases w1 : w = 1
          · refine ifT w1 ?_
            refine gB L.1.1 ?_
            refine hpq_if L ?_
            rw [if_neg s34]
            exact no87
          · exact ifF w1 no87
        · rw [if_pos (by omega), if_pos (by omega), hl, if_neg s34]
    · refine ⟨-1, ls, tp, xC.keep fun h hw dw U t => x_setP U hk ?_, rC.keep fun h m => r_setP m hk ?_⟩
      · rw [if_neg w0]
        exact no51 (by omega) (by omega)
      · rw [if_neg (by omega)]
  · refine ⟨-1, ls, tp, xC.keep fun h hw dw U t => ?_, rC.keep fun h m => ?_⟩
    · have H := U.1.1
      show X_set 0 i w x h = _
      unfold X_set
      refine gB H.t0 ?_
      rw [H.p0_0]
      refine gB H.t1 ?_
      refine has_if U.1 ?_
      rw [if_neg q]
    · show R_set 27 i w x h = _
      unfold R_set
      refine gB m.1.t27 ?_
      refine rhas_if m ?_
      rw [if_neg q]
