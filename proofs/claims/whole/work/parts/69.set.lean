/-! lines and rows by themselves: told, and altered -/
/-! ### line -/
noncomputable def lnV (ls : List LN) (i : Nat) (w : Int) : Int := if w = 0 then (gl ls i).1.1 else if w = 1 then (gl ls i).1.2.1 else if w = 2 then (gl ls i).1.2.2.1 else if w = 3 then (gl ls i).1.2.2.2 else if w = 4 then ((gl ls i).2.1.length : Int) else if w = 5 then ((gl ls i).2.2.length : Int) else if w = 6 then faT ls i else -1
theorem has_if {h : AH} {hw dw : Nat} {ls : List LN} (C : CL h hw dw ls) {i : Int} {α : Type} {a b r : Option α} (c : (if 0 ≤ i ∧ i < ls.length then b else a) = r) : ((Ledger_has 1 i h).bind fun u => if u = 0 then a else b) = r := by
  refine cB (s_has C) ?_
  by_cases q : 0 ≤ i ∧ i < ls.length
  · rw [if_pos q] at c; rw [decide_eq_true q]; exact ifF one_ne c
  · rw [if_neg q] at c; rw [decide_eq_false q]; exact ifT rfl c
theorem rhas_if {h : AH} {ls : List LN} {tp : List Int} (m : MS h ls tp) {i : Int} {α : Type} {a b r : Option α} (c : (if 0 ≤ i ∧ i < ls.length then b else a) = r) : ((R_isLine 27 i h).bind fun u => if u = 0 then a else b) = r := by
  refine cB (s_isLine m) ?_
  by_cases q : 0 ≤ i ∧ i < ls.length
  · rw [if_pos q] at c; rw [decide_eq_true q]; exact ifF one_ne c
  · rw [if_neg q] at c; rw [decide_eq_false q]; exact ifT rfl c
theorem CL.lnA {h : AH} {hw dw : Nat} {ls : List LN} (C : CL h hw dw ls) {i : Nat} (hi : i < ls.length) {α : Type} {f : Int → Option α} {r : Option α} (c : f (hCe h 2 i) = r) : ((gd (hTy h 2 = 26 ∧ 0 ≤ (i : Int) ∧ (i : Int) < hLn h 2) (hCe h 2 i)).bind f) = r := by
  have := C.len
  exact gB ⟨C.1.t2, by omega, by rw [C.1.l2]; omega⟩ c
theorem q_line (i w : Int) : sim (fun h => lft (X_line 0 i w h) h) (fun h => R_line 27 i w h) := mk_sim fun ls tp ok => by
  have l60 := ok.1
  by_cases q : 0 ≤ i ∧ i < ls.length
  · obtain ⟨k, rfl⟩ := Int.eq_ofNat_of_zero_le q.1
    have hk : k < ls.length := by omega
    refine ⟨lnV ls k w, ls, tp, xC.keep fun h hw dw U t => lft_s ?_, ?_⟩
    · have H := U.1.1
      obtain ⟨B, ⟨n1, n2, n3, n4⟩, D, E⟩ := U.1.ln hk
      unfold X_line
      refine gB H.t0 ?_
      rw [H.p0_0]
      refine gB H.t1 ?_
      refine has_if U.1 ?_
      rw [if_pos q]
      refine gB H.t0 ?_
      refine gB H.t1 ?_
      rw [H.p1_0]
      refine U.1.lnA hk ?_
      unfold lnV
      by_cases w0 : w = 0
      · rw [if_pos w0, if_pos w0]; refine gB B.1 ?_; rw [n1]
      rw [if_neg w0, if_neg w0]
      by_cases w1 : w = 1
      · rw [if_pos w1, if_pos w1]; refine gB B.1 ?_; rw [n2]
      rw [if_neg w1, if_neg w1]
      by_cases w2 : w = 2
      · rw [if_pos w2, if_pos w2]; refine gB B.1 ?_; rw [n3]
      rw [if_neg w2, if_neg w2]
      by_cases w3 : w = 3
      · rw [if_pos w3, if_pos w3]; refine gB B.1 ?_; rw [n4]
      rw [if_neg w3, if_neg w3]
      by_cases w4 : w = 4
      · rw [if_pos w4, if_pos w4]; refine gB B.1 ?_; rw [B.2.2.2.2.2.2.2.1]; refine gB B.2.1 ?_; rw [D.2.1]
      rw [if_neg w4, if_neg w4]
      by_cases w5 : w = 5
      · rw [if_pos w5, if_pos w5]; refine gB B.1 ?_; rw [B.2.2.2.2.2.2.2.2.1]; refine gB B.2.2.2.1 ?_; rw [E.2.1]
      rw [if_neg w5, if_neg w5]
      by_cases w6 : w = 6
      · rw [if_pos w6, if_pos w6]
        refine gB H.t0 ?_
        refine gB H.t1 ?_
        rw [H.p1_1]
        refine gB ⟨H.t3, by omega, by rw [H.l3]; omega⟩ ?_
        rw [(U.2.1 k hk).1]
      rw [if_neg w6, if_neg w6]
    · by_cases w6 : w = 6
      · refine rC.lay fun h h' m e m' L => ?_
        show R_line 27 k w h = _
        unfold R_line
        refine gB m.1.t27 ?_
        refine rhas_if m ?_
        rw [if_pos q, if_neg (by omega), if_neg (by omega), if_neg (by omega), if_neg (by omega), if_neg (by omega), if_neg (by omega), if_pos w6]
        refine gB m.1.t27 ?_
        refine cB e ?_
        refine gB m'.1.t27 ?_
        rw [m'.1.p27_20]
        refine gB ⟨m'.1.t45, by omega, by rw [m'.1.l45]; omega⟩ ?_
        rw [(L k hk).2]
        unfold lnV
        rw [if_neg (by omega), if_neg (by omega), if_neg (by omega), if_neg (by omega), if_neg (by omega), if_neg (by omega), if_pos w6]
      · refine rC.keep fun h m => ?_
        have H := m.1
        obtain ⟨⟨n1, n2, n3, n4⟩, ⟨d1, -⟩, e1, -⟩ := (m.2.1.2.2 k hk).1
        show R_line 27 k w h = _
        unfold R_line lnV
        refine gB m.1.t27 ?_
        refine rhas_if m ?_
        rw [if_pos q]
        by_cases w0 : w = 0
        · rw [if_pos w0, if_pos w0]; refine gB H.t27 ?_; rw [H.p27_8]; refine gB ⟨H.t33, by omega, by rw [H.l33]; omega⟩ ?_; rw [n1]
        rw [if_neg w0, if_neg w0]
        by_cases w1 : w = 1
        · rw [if_pos w1, if_pos w1]; refine gB H.t27 ?_; rw [H.p27_9]; refine gB ⟨H.t34, by omega, by rw [H.l34]; omega⟩ ?_; rw [n2]
        rw [if_neg w1, if_neg w1]
        by_cases w2 : w = 2
        · rw [if_pos w2, if_pos w2]; refine gB H.t27 ?_; rw [H.p27_10]; refine gB ⟨H.t35, by omega, by rw [H.l35]; omega⟩ ?_; rw [n3]
        rw [if_neg w2, if_neg w2]
        by_cases w3 : w = 3
        · rw [if_pos w3, if_pos w3]; refine gB H.t27 ?_; rw [H.p27_11]; refine gB ⟨H.t36, by omega, by rw [H.l36]; omega⟩ ?_; rw [n4]
        rw [if_neg w3, if_neg w3]
        by_cases w4 : w = 4
        · rw [if_pos w4, if_pos w4]; refine gB H.t27 ?_; rw [H.p27_12]; refine gB ⟨H.t37, by omega, by rw [H.l37]; omega⟩ ?_; rw [d1]
        rw [if_neg w4, if_neg w4]
        by_cases w5 : w = 5
        · rw [if_pos w5, if_pos w5]; refine gB H.t27 ?_; rw [H.p27_13]; refine gB ⟨H.t38, by omega, by rw [H.l38]; omega⟩ ?_; rw [e1]
        rw [if_neg w5, if_neg w5, if_neg w6, if_neg w6]
  · refine ⟨-1, ls, tp, xC.keep fun h hw dw U t => lft_s ?_, rC.keep fun h m => ?_⟩
    · have H := U.1.1
      unfold X_line
      refine gB H.t0 ?_
      rw [H.p0_0]
      refine gB H.t1 ?_
      refine has_if U.1 ?_
      rw [if_neg q]
    · show R_line 27 i w h = _
      unfold R_line
      refine gB m.1.t27 ?_
      refine rhas_if m ?_
      rw [if_neg q]
/-! ### rows -/
/-- the side of a line that v names -/
def sdO (l : LN) (v : Int) : List RW := if v = 0 then l.2.1 else l.2.2
def sdA (a v : Int) : Int := if v = 0 then a + 1 else a + 3
theorem LD.sd {h : AH} {a : Int} {l : LN} (L : LD h a l) (v : Int) : SD h (sdA a v) (sdO l v) := by
  unfold sdA sdO
  by_cases q : v = 0
  · rw [if_pos q, if_pos q]; exact L.2.2.1
  · rw [if_neg q, if_neg q]; exact L.2.2.2
theorem s_sideA {h : AH} {a v : Int} {l : LN} (L : LD h a l) : Line_side a v h = some (sdA a v) := s_side L
theorem s_sHas {h : AH} {s j : Int} {l : List RW} (S : SD h s l) : Side_has s j h = some (b2i (decide (0 ≤ j ∧ j < l.length))) := by
  unfold Side_has
  by_cases q : j < 0
  · rw [if_pos q, decide_eq_false (by omega)]; rfl
  · rw [if_neg q]
    refine gB S.1.1 ?_
    rw [S.2.1]
    by_cases q2 : j < l.length
    · rw [if_pos q2, decide_eq_true (by omega)]; rfl
    · rw [if_neg q2, decide_eq_false (by omega)]; rfl
abbrev rowOK (ls : List LN) (i v j : Int) : Prop := (0 ≤ i ∧ i < ls.length) ∧ 0 ≤ j ∧ j < (sdO (gl ls i.toNat) v).length
theorem s_hasRow {h : AH} {hw dw : Nat} {ls : List LN} (C : CL h hw dw ls) {i v j : Int} : Ledger_hasRow 1 i v j h = some (b2i (decide (rowOK ls i v j))) := by
  have H := C.1
  unfold Ledger_hasRow
  refine gB H.t1 ?_
  refine has_if C ?_
  by_cases q : 0 ≤ i ∧ i < ls.length
  · rw [if_pos q]
    obtain ⟨k, rfl⟩ := Int.eq_ofNat_of_zero_le q.1
    have hk : k < ls.length := by omega
    have L := C.ln hk
    refine gB H.t1 ?_
    rw [H.p1_0]
    refine C.lnA hk ?_
    refine gB L.1.1 ?_
    refine cB (s_sideA L) ?_
    refine gB (L.sd v).1.1 ?_
    refine cB (s_sHas (L.sd v)) ?_
    by_cases q2 : 0 ≤ j ∧ j < (sdO (gl ls k) v).length
    · rw [decide_eq_true q2, decide_eq_true (show rowOK ls k v j from ⟨q, q2⟩)]; exact ifF one_ne rfl
    · rw [decide_eq_false q2, decide_eq_false (show ¬ rowOK ls k v j from fun z => q2 z.2)]; exact ifT rfl rfl
  · rw [if_neg q, decide_eq_false (show ¬ rowOK ls i v j from fun z => q z.1)]; rfl
theorem row_if {h : AH} {hw dw : Nat} {ls : List LN} (C : CL h hw dw ls) {i v j : Int} {α : Type} {a b r : Option α} (c : (if rowOK ls i v j then b else a) = r) : ((Ledger_hasRow 1 i v j h).bind fun u => if u = 0 then a else b) = r := by
  refine cB (s_hasRow C) ?_
  by_cases q : rowOK ls i v j
  · rw [if_pos q] at c; rw [decide_eq_true q]; exact ifF one_ne c
  · rw [if_neg q] at c; rw [decide_eq_false q]; exact ifT rfl c
theorem s_isRow {h : AH} {ls : List LN} {tp : List Int} (m : MS h ls tp) {i v j : Int} : R_isRow 27 i v j h = some (b2i (decide (rowOK ls i v j))) := by
  have H := m.1
  have l60 := m.2.1.2.1
  unfold R_isRow
  refine gB H.t27 ?_
  refine rhas_if m ?_
  by_cases q : 0 ≤ i ∧ i < ls.length
  · rw [if_pos q]
    obtain ⟨k, rfl⟩ := Int.eq_ofNat_of_zero_le q.1
    have hk : k < ls.length := by omega
    obtain ⟨-, ⟨d1, d9, -⟩, u1, u9, -⟩ := (m.2.1.2.2 k hk).1
    have fin : ∀ n : Nat, n ≤ 9 → (sdO (gl ls k) v).length = n → R_isRow_30 n 0 j h = some (b2i (decide (rowOK ls k v j))) := fun n n9 e => by
      unfold R_isRow_30
      rw [w32_e (by omega)]
      refine rin_if ?_
      by_cases q2 : 0 ≤ j ∧ j ≤ (n : Int) - 1
      · rw [if_pos q2, decide_eq_true (show rowOK ls k v j from ⟨q, by show 0 ≤ j ∧ j < ((sdO (gl ls k) v).length : Int); omega⟩)]; rfl
      · rw [if_neg q2, decide_eq_false (show ¬ rowOK ls k v j from fun z => by have := z.2; have : 0 ≤ j ∧ j < ((sdO (gl ls k) v).length : Int) := this; omega)]; rfl
    by_cases v0 : v = 0
    · refine ifT v0 ?_
      refine gB H.t27 ?_
      rw [H.p27_12]
      refine gB ⟨H.t37, by omega, by rw [H.l37]; omega⟩ ?_
      rw [d1]
      exact fin _ d9 (by unfold sdO; rw [if_pos v0])
    · refine ifF v0 ?_
      refine gB H.t27 ?_
      rw [H.p27_13]
      refine gB ⟨H.t38, by omega, by rw [H.l38]; omega⟩ ?_
      rw [u1]
      exact fin _ u9 (by unfold sdO; rw [if_neg v0])
  · rw [if_neg q, decide_eq_false (show ¬ rowOK ls i v j from fun z => q z.1)]; rfl
theorem rrow_if {h : AH} {ls : List LN} {tp : List Int} (m : MS h ls tp) {i v j : Int} {α : Type} {a b r : Option α} (c : (if rowOK ls i v j then b else a) = r) : ((R_isRow 27 i v j h).bind fun u => if u = 0 then a else b) = r := by
  refine cB (s_isRow m) ?_
  by_cases q : rowOK ls i v j
  · rw [if_pos q] at c; rw [decide_eq_true q]; exact ifF one_ne c
  · rw [if_neg q] at c; rw [decide_eq_false q]; exact ifT rfl c
noncomputable def rwV (ls : List LN) (i j : Nat) (v w : Int) : Int := if w = 0 then (gt (sdO (gl ls i) v) j).1 else if w = 1 then (gt (sdO (gl ls i) v) j).2.1 else if w = 2 then (gt (sdO (gl ls i) v) j).2.2 else if w = 3 then (if ahS ls (rtS ls) i (gt (sdO (gl ls i) v) j).1 = -1 then -2 else ahS ls (rtS ls) i (gt (sdO (gl ls i) v) j).1) else -1
/-- a row as the reference has it -/
theorem LM.rw {h : AH} {k j : Nat} {l : LN} (L : LM h k l) {v : Int} (hj : j < (sdO l v).length) (hu : v ≠ 0 → ∀ r ∈ l.2.2, r.2.2 = 0) : j < 9 ∧ (v = 0 → hCe h 39 (9 * (k : Int) + j) = (gt (sdO l v) j).1 ∧ hCe h 40 (9 * (k : Int) + j) = (gt (sdO l v) j).2.1 ∧ hCe h 41 (9 * (k : Int) + j) = (gt (sdO l v) j).2.2) ∧ (v ≠ 0 → hCe h 42 (9 * (k : Int) + j) = (gt (sdO l v) j).1 ∧ hCe h 43 (9 * (k : Int) + j) = (gt (sdO l v) j).2.1 ∧ (gt (sdO l v) j).2.2 = 0) := by
  obtain ⟨-, ⟨d1, d9, d2, d3⟩, u1, u9, u2⟩ := L
  by_cases q : v = 0
  · unfold sdO at *
    rw [if_pos q] at hj ⊢
    exact ⟨by omega, fun _ => ⟨(d2 j hj).1, (d2 j hj).2, d3 j hj⟩, fun z => absurd q z⟩
  · unfold sdO at *
    rw [if_neg q] at hj ⊢
    exact ⟨by omega, fun z => absurd z q, fun _ => ⟨(u2 j hj).1, (u2 j hj).2, hu q _ (gt_mem hj)⟩⟩
theorem ah_rng (ls : List LN) (R : Nat → Bool) (e : Nat) (q : Int) : ahS ls R e q = -1 ∨ 0 ≤ ahS ls R e q := by
  rcases ahF_c ls R q e 0 with z | ⟨i, -, -, -, -, z⟩
  · exact Or.inl z
  · exact Or.inr (by unfold ahS; rw [z]; omega)
theorem q_row (i v j w : Int) : sim (fun h => lft (X_row 0 i v j w h) h) (fun h => R_row 27 i v j w h) := mk_sim fun ls tp ok => by
  have l60 := ok.1
  by_cases q : rowOK ls i v j
  · obtain ⟨⟨i0, i1⟩, j0, j1⟩ := id q
    obtain ⟨k, rfl⟩ := Int.eq_ofNat_of_zero_le i0
    obtain ⟨n, rfl⟩ := Int.eq_ofNat_of_zero_le j0
    have hk : k < ls.length := by omega
    have j1' : n < (sdO (gl ls k) v).length := by have : (n : Int) < ((sdO (gl ls k) v).length : Int) := j1; omega
    have au : ∀ r ∈ (gl ls k).2.2, r.2.2 = 0 := fun r hr => ((ok.2.1 k hk).2.2.2.2.1 r hr).2
    refine ⟨rwV ls k n v w, ls, tp, xC.keep fun h hw dw U t => lft_s ?_, ?_⟩
    · have H := U.1.1
      have L := U.1.ln hk
      have S := L.sd v
      obtain ⟨m, m1, m2, m3⟩ := U.2.2
      unfold X_row
      refine gB H.t0 ?_
      rw [H.p0_0]
      refine gB H.t1 ?_
      refine row_if U.1 ?_
      rw [if_pos q]
      by_cases wl : w < 0
      · refine ifT wl ?_
        unfold rwV
        rw [if_neg (by omega), if_neg (by omega), if_neg (by omega), if_neg (by omega)]
      by_cases wh : 3 < w
      · refine ifF wl (ifT wh ?_)
        unfold rwV
        rw [if_neg (by omega), if_neg (by omega), if_neg (by omega), if_neg (by omega)]
      refine ifF wl (ifF wh ?_)
      refine gB H.t0 ?_
      refine gB H.t1 ?_
      rw [H.p1_0]
      refine U.1.lnA hk ?_
      refine gB L.1.1 ?_
      refine cB (s_sideA L) ?_
      by_cases w3 : w < 3
      · refine ifT w3 ?_
        refine gB S.1.1 ?_
        rw [s_cell S j1' (by omega)]
        have c := S.2.2.2 n j1'
        unfold rwV
        by_cases w0 : w = 0
        · subst w0; rw [if_pos rfl, Int.add_zero, c.1]; rfl
        rw [if_neg w0]
        by_cases w1 : w = 1
        · subst w1; rw [if_pos rfl, c.2.1]; rfl
        rw [if_neg w1, if_pos (show w = 2 by omega), show w = 2 by omega, c.2.2]; rfl
      · refine ifF w3 ?_
        refine gB H.t0 ?_
        refine gB H.t0 ?_
        refine gB H.t1 ?_
        refine gB S.1.1 ?_
        refine cB (s_cell0 S j1') ?_
        refine gB H.t1 ?_
        rw [m1]
        refine cB (s_leastAhead U.1 (U.1.m63 (k := 0) m2) (by omega)) ?_
        rw [ahS_g (ls' := ls) (R' := rtS ls) fun i hi => ⟨m3 i (by omega), rfl⟩]
        have ev : rwV ls k n v w = if ahS ls (rtS ls) k (gt (sdO (gl ls k) v) n).1 = -1 then -2 else ahS ls (rtS ls) k (gt (sdO (gl ls k) v) n).1 := by
          unfold rwV
          rw [if_neg (show ¬ w = 0 by omega), if_neg (show ¬ w = 1 by omega), if_neg (show ¬ w = 2 by omega), if_pos (show w = 3 by omega)]
        rw [ev]
        rcases ah_rng ls (rtS ls) k (gt (sdO (gl ls k) v) n).1 with z | z
        · refine ifT (by omega) ?_; rw [if_pos z]
        · refine ifF (by omega) ?_; rw [if_neg (by omega)]
    · by_cases w3 : w = 3
      · refine rC.lay fun h h' m e m' L => ?_
        have H := m'.1
        obtain ⟨n9, r1, r2⟩ := (m'.2.1.2.2 k hk).1.rw j1' fun _ => au
        have lf : ∀ q, R_lineFor 27 q k h' = some (ahS ls (rtS ls) k q) := fun q => by
          rw [s_lineFor H (by omega) (fun j hj => m'.2.1.num (by omega)), ahS_g (ls' := ls) (R' := rtS ls) fun i hi => ⟨L.rr i (by omega), rfl⟩]
        have fin : ∀ s0, R_row_138 k s0 27 h' = some (if ahS ls (rtS ls) k s0 = -1 then -2 else ahS ls (rtS ls) k s0, h') := fun s0 => by
          unfold R_row_138
          refine gB H.t27 ?_
          refine cB (lf s0) ?_
          split <;> rfl
        show R_row 27 k v n w h = _
        unfold R_row
        refine gB m.1.t27 ?_
        refine rrow_if m ?_
        rw [if_pos q, if_neg (by omega), if_neg (by omega), if_neg (by omega), if_pos w3]
        refine gB m.1.t27 ?_
        refine cB e ?_
        rw [w32_e (z := 9 * (k : Int)) (by omega), w32_e (z := 9 * (k : Int) + n) (by omega)]
        have ev : rwV ls k n v w = if ahS ls (rtS ls) k (gt (sdO (gl ls k) v) n).1 = -1 then -2 else ahS ls (rtS ls) k (gt (sdO (gl ls k) v) n).1 := by
          unfold rwV
          rw [if_neg (show ¬ w = 0 by omega), if_neg (show ¬ w = 1 by omega), if_neg (show ¬ w = 2 by omega), if_pos w3]
        rw [ev]
        by_cases v0 : v = 0
        · refine ifT v0 ?_
          refine gB H.t27 ?_
          rw [H.p27_14]
          refine gB ⟨H.t39, by omega, by rw [H.l39]; omega⟩ ?_
          rw [(r1 v0).1]
          exact fin _
        · refine ifF v0 ?_
          refine gB H.t27 ?_
          rw [H.p27_17]
          refine gB ⟨H.t42, by omega, by rw [H.l42]; omega⟩ ?_
          rw [(r2 v0).1]
          exact fin _
      · refine rC.keep fun h m => ?_
        have H := m.1
        obtain ⟨n9, r1, r2⟩ := (m.2.1.2.2 k hk).1.rw j1' fun _ => au
        show R_row 27 k v n w h = _
        unfold R_row rwV
        refine gB m.1.t27 ?_
        refine rrow_if m ?_
        rw [if_pos q, w32_e (z := 9 * (k : Int)) (by omega), w32_e (z := 9 * (k : Int) + n) (by omega)]
        by_cases w0 : w = 0
        · rw [if_pos w0, if_pos w0]
          by_cases v0 : v = 0
          · rw [if_pos v0]; refine gB H.t27 ?_; rw [H.p27_14]; refine gB ⟨H.t39, by omega, by rw [H.l39]; omega⟩ ?_; rw [(r1 v0).1]
          · rw [if_neg v0]; refine gB H.t27 ?_; rw [H.p27_17]; refine gB ⟨H.t42, by omega, by rw [H.l42]; omega⟩ ?_; rw [(r2 v0).1]
        rw [if_neg w0, if_neg w0]
        by_cases w1 : w = 1
        · rw [if_pos w1, if_pos w1]
          by_cases v0 : v = 0
          · rw [if_pos v0]; refine gB H.t27 ?_; rw [H.p27_15]; refine gB ⟨H.t40, by omega, by rw [H.l40]; omega⟩ ?_; rw [(r1 v0).2.1]
          · rw [if_neg v0]; refine gB H.t27 ?_; rw [H.p27_18]; refine gB ⟨H.t43, by omega, by rw [H.l43]; omega⟩ ?_; rw [(r2 v0).2.1]
        rw [if_neg w1, if_neg w1]
        by_cases w2 : w = 2
        · rw [if_pos w2, if_pos w2]
          by_cases v0 : v = 0
          · rw [if_pos v0]; refine gB H.t27 ?_; rw [H.p27_16]; refine gB ⟨H.t41, by omega, by rw [H.l41]; omega⟩ ?_; rw [(r1 v0).2.2]
          · rw [if_neg v0, (r2 v0).2.2]
        rw [if_neg w2, if_neg w2, if_neg w3, if_neg w3]
  · refine ⟨-1, ls, tp, xC.keep fun h hw dw U t => lft_s ?_, rC.keep fun h m => ?_⟩
    · have H := U.1.1
      unfold X_row
      refine gB H.t0 ?_
      rw [H.p0_0]
      refine gB H.t1 ?_
      refine row_if U.1 ?_
      rw [if_neg q]
    · show R_row 27 i v j w h = _
      unfold R_row
      refine gB m.1.t27 ?_
      refine rrow_if m ?_
      rw [if_neg q]
