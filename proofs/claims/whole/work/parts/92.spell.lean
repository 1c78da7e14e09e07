/-! spell, both sides -/
theorem nmR_5 {s : Int} (h : 0 ≤ s ∧ s ≤ 4) : nmR s.toNat = nmS s := by
  unfold nmR
  rw [if_pos (by omega), Int.toNat_of_nonneg h.1]
theorem rw_nil {b : Bool} {t : List Int} : rwS b t [] = t := by unfold rwS; rfl
section RWL
variable {h0 : AH} {ls : List LN} {tp : List Int} {k : Nat}
theorem wl_up {h : AH} {t : List Int} (hk : k < ls.length) (W : QS h0 h ls tp t) (hl : t.length ≤ 390) : ∃ h', R_writesLine_193 FU 27 k (w32 (9 * (k : Int))) h = some h' ∧ QS h0 h' ls tp (rwS false t (gl ls k).2.2 ++ [59]) := by
  have l60 := W.1.2.1.2.1
  have u9 := (W.1.2.1.2.2 k hk).1.2.2.2.1
  obtain ⟨h', e, W'⟩ := rwu_loop hk (gl ls k).2.2.length FU 0 h t (by omega) (fu_big (by omega)) W (by omega)
  rw [List.drop_zero] at W'
  refine ⟨h', ?_, W'⟩
  rw [w32_e (z := 9 * (k : Int)) (by omega), show 9 * (k : Int) = ((9 * k + 0 : Nat) : Int) by omega]
  exact e
theorem wl_down {h : AH} {t : List Int} {s : Int} {b : Bool} (hb : b = true ↔ s ≠ 1) (hk : k < ls.length) (W : QS h0 h ls tp t) (hl : t.length ≤ 60) : ∃ h', R_writesLine_121 FU 27 k s (w32 (9 * (k : Int))) h = r121 k s h' ∧ QS h0 h' ls tp (rwS b t (gl ls k).2.1) ∧ (rwS b t (gl ls k).2.1).length ≤ 360 := by
  have l60 := W.1.2.1.2.1
  have d9 := (W.1.2.1.2.2 k hk).1.2.1.2.1
  obtain ⟨h', e, W', b'⟩ := rwd_loop hk hb (gl ls k).2.1.length FU 0 h t (by omega) (fu_big (by omega)) W (by omega)
  rw [List.drop_zero] at W' b'
  refine ⟨h', ?_, W', by omega⟩
  rw [w32_e (z := 9 * (k : Int)) (by omega), show 9 * (k : Int) = ((9 * k + 0 : Nat) : Int) by omega]
  exact e
theorem wl_tail {h : AH} (hk : k < ls.length) (W : QS h0 h ls tp (spC (gl ls k))) (hl : (spC (gl ls k)).length ≤ 46) : ∃ h', (if (gl ls k).1.2.1 = 0 then R_writesLine_121 FU 27 k (gl ls k).1.2.1 (w32 (9 * (k : Int))) h else if (gl ls k).1.2.1 = 4 then R_writesLine_113 27 k (gl ls k).1.2.1 8 27 h else R_writesLine_113 27 k (gl ls k).1.2.1 6 27 h) = some h' ∧ QS h0 h' ls tp (spS (gl ls k)) := by
  have okl := (W.1.2.1.2.2 k hk).2
  obtain ⟨-, s0, s4, -, -, z1, z2, -, -⟩ := okl
  unfold spS spD
  by_cases c0 : (gl ls k).1.2.1 = 0
  · rw [if_pos c0, if_neg (show ¬ (gl ls k).1.2.1 = 4 by omega), if_pos c0]
    obtain ⟨h1, e1, W1, -⟩ := wl_down (s := (gl ls k).1.2.1) (b := true) ⟨fun _ => by omega, fun _ => rfl⟩ hk W (by omega)
    rw [z1 (Or.inl c0), rw_nil] at W1
    obtain ⟨h2, e2, W2⟩ := wl_up hk W1 (by omega)
    rw [z2 (by omega), rw_nil] at W2
    refine ⟨h2, e1.trans ?_, W2⟩
    unfold r121
    exact ifF (by omega) e2
  rw [if_neg c0]
  by_cases c4 : (gl ls k).1.2.1 = 4
  · rw [if_pos c4, if_pos c4]
    have w1 := wdS_len (spC (gl ls k)) (nmR 8)
    obtain ⟨h1, e1, W1⟩ := W.word (k := 8) (by omega) (by omega)
    obtain ⟨h2, e2, W2, b2⟩ := wl_down (s := (gl ls k).1.2.1) (b := true) ⟨fun _ => by omega, fun _ => rfl⟩ hk W1 (by omega)
    obtain ⟨h3, e3, W3⟩ := W2.word (k := 9) (by omega) (by omega)
    have w3 := wdS_len (rwS true (wdS (spC (gl ls k)) (nmR 8)) (gl ls k).2.1) (nmR 9)
    obtain ⟨h4, e4, W4⟩ := wl_up hk W3 (by omega)
    refine ⟨h4, ?_, W4⟩
    unfold R_writesLine_113
    refine gB W.1.1.t27 ?_
    refine cB e1 ?_
    refine e2.trans ?_
    unfold r121
    refine ifT c4 ?_
    refine gB W2.1.1.t27 ?_
    exact cB e3 e4
  rw [if_neg c4, if_neg c4, if_neg c0]
  have w1 := wdS_len (spC (gl ls k)) (nmR 6)
  obtain ⟨h1, e1, W1⟩ := W.word (k := 6) (by omega) (by omega)
  obtain ⟨h2, e2, W2, b2⟩ := wl_down (s := (gl ls k).1.2.1) (b := decide ((gl ls k).1.2.1 ≠ 1)) decide_eq_true_iff hk W1 (by omega)
  have eb : rwS (decide ((gl ls k).1.2.1 ≠ 1)) (wdS (spC (gl ls k)) (nmR 6)) (gl ls k).2.1 = rwS (decide ((gl ls k).1.2.1 = 2)) (wdS (spC (gl ls k)) 6) (gl ls k).2.1 := by
    rcases (show (gl ls k).1.2.1 = 1 ∨ (gl ls k).1.2.1 = 2 ∨ (gl ls k).1.2.1 = 3 by omega) with c | c | c
    · rw [c]; rfl
    · rw [c]; rfl
    · rw [z1 (Or.inr c), rw_nil, rw_nil]; rfl
  rw [eb] at W2 b2
  obtain ⟨h4, e4, W4⟩ := wl_up hk W2 (by omega)
  refine ⟨h4, ?_, W4⟩
  unfold R_writesLine_113
  refine gB W.1.1.t27 ?_
  refine cB e1 ?_
  refine e2.trans ?_
  unfold r121
  exact ifF c4 e4
theorem wl_63 {h : AH} (hk : k < ls.length) (c : (gl ls k).1.2.1 = 1 → QS h0 h ls tp (spC (gl ls k)) ∧ (spC (gl ls k)).length ≤ 46) (c2 : (gl ls k).1.2.1 ≠ 1 → QS h0 h ls tp (spA (gl ls k)) ∧ (spA (gl ls k)).length ≤ 17) : ∃ h', R_writesLine_63 27 k (gl ls k).1.2.1 h = some h' ∧ QS h0 h' ls tp (spS (gl ls k)) := by
  by_cases q : (gl ls k).1.2.1 = 3 ∨ (gl ls k).1.2.1 = 4
  · obtain ⟨W, hl⟩ := c2 (by omega)
    have H := W.1.1
    have l60 := W.1.2.1.2.1
    have okl := (W.1.2.1.2.2 k hk).2
    obtain ⟨⟨a1, a2⟩, ⟨b1, b2⟩⟩ := okl.2.2.2.2.2.2.2.1 (by omega)
    obtain ⟨h1, e1, W1⟩ := W.word (k := 7) (by omega) (by omega)
    have w1 := wdS_len (spA (gl ls k)) (nmR 7)
    obtain ⟨⟨-, -, n3, -⟩, -⟩ := (W1.1.2.1.2.2 k hk).1
    obtain ⟨h2, e2, W2, l2⟩ := W1.int (v := (gl ls k).1.2.2.1) (by omega) (by omega)
    obtain ⟨⟨-, -, -, n4⟩, -⟩ := (W2.1.2.1.2.2 k hk).1
    obtain ⟨h3, e3, W3, l3⟩ := W2.int (v := (gl ls k).1.2.2.2) (by omega) (by omega)
    have eC : spC (gl ls k) = inS (inS (wdS (spA (gl ls k)) 7) (gl ls k).1.2.2.1.toNat) (gl ls k).1.2.2.2.toNat := by
      unfold spC spB
      rw [if_neg (by omega), if_pos q]
    have W3' : QS h0 h3 ls tp (inS (inS (wdS (spA (gl ls k)) 7) (gl ls k).1.2.2.1.toNat) (gl ls k).1.2.2.2.toNat) := W3
    have l3' : (inS (inS (wdS (spA (gl ls k)) 7) (gl ls k).1.2.2.1.toNat) (gl ls k).1.2.2.2.toNat).length ≤ (inS (wdS (spA (gl ls k)) (nmR 7)) (gl ls k).1.2.2.1.toNat).length + 11 := l3
    rw [← eC] at W3' l3'
    obtain ⟨h4, e4, W4⟩ := wl_tail hk W3' (by omega)
    refine ⟨h4, ?_, W4⟩
    unfold R_writesLine_63
    refine cB s_RhasPair ?_
    rw [decide_eq_true q]
    refine ifF one_ne ?_
    refine gB H.t27 ?_
    refine cB e1 ?_
    refine gB W1.1.1.t27 ?_
    rw [W1.1.1.p27_10]
    refine gB ⟨W1.1.1.t35, by omega, by rw [W1.1.1.l35]; omega⟩ ?_
    rw [n3]
    refine gB W1.1.1.t27 ?_
    refine cB e2 ?_
    refine gB W2.1.1.t27 ?_
    rw [W2.1.1.p27_11]
    refine gB ⟨W2.1.1.t36, by omega, by rw [W2.1.1.l36]; omega⟩ ?_
    rw [n4]
    refine gB W2.1.1.t27 ?_
    refine cB e3 ?_
    exact e4
  · have W : QS h0 h ls tp (spC (gl ls k)) ∧ (spC (gl ls k)).length ≤ 46 := by
      by_cases s1 : (gl ls k).1.2.1 = 1
      · exact c s1
      · have eC : spC (gl ls k) = spA (gl ls k) := by unfold spC spB; rw [if_neg s1, if_neg q]
        rw [eC]
        have := c2 s1
        exact ⟨this.1, by omega⟩
    obtain ⟨h4, e4, W4⟩ := wl_tail hk W.1 W.2
    refine ⟨h4, ?_, W4⟩
    unfold R_writesLine_63
    refine cB s_RhasPair ?_
    rw [decide_eq_false q]
    refine ifT rfl ?_
    exact e4
theorem s_writesLine {h : AH} (hk : k < ls.length) (m : MS h ls tp) : ∃ h', R_writesLine 27 k h = some h' ∧ QS h h' ls tp (spS (gl ls k)) := by
  have H := m.1
  have l60 := m.2.1.2.1
  have okl := (m.2.1.2.2 k hk).2
  obtain ⟨n1, n2⟩ := okl.1
  have s0 := okl.2.1
  have s4 := okl.2.2.1
  obtain ⟨⟨-, m2, -⟩, -⟩ := (m.2.1.2.2 k hk).1
  have F0 : Fr RSK h (hSet h 27 33 0) := Fr.set (Or.inr ⟨rfl, rfl⟩)
  have W0 : QS h (hSet h 27 33 0) ls tp [] := ⟨m.frQ F0 fun b j => RSK.q, ⟨cS _ _ _ _, fun i hi => absurd hi (Nat.not_lt_zero i)⟩, F0⟩
  obtain ⟨h1, e1, W1⟩ := W0.word (k := (gl ls k).1.2.1.toNat) (by omega) (by show 0 + 7 ≤ 600; omega)
  rw [nmR_5 ⟨s0, s4⟩] at W1
  rw [Int.toNat_of_nonneg s0] at e1
  have w1 : (wdS [] (nmS (gl ls k).1.2.1)).length ≤ 0 + 6 := (wdS_len [] _).1
  obtain ⟨⟨v1, -⟩, -⟩ := (W1.1.2.1.2.2 k hk).1
  obtain ⟨h2, e2, W2, l2⟩ := W1.int (v := (gl ls k).1.1) (by omega) (by omega)
  have W2' : QS h h2 ls tp (spA (gl ls k)) := W2
  have l2' : (spA (gl ls k)).length ≤ (wdS [] (nmS (gl ls k).1.2.1)).length + 11 := l2
  have H1 := W1.1.1
  have H2 := W2.1.1
  have pre : ∀ {r}, (if (gl ls k).1.2.1 = 1 then ((R_writesWord 27 5 h2).bind fun h11 => (gd (hTy h11 27 = 10) (hCe h11 27 12)).bind fun u12 => (gd (hTy h11 u12 = 21 ∧ 0 ≤ (k : Int) ∧ (k : Int) < hLn h11 u12) (hCe h11 u12 k)).bind fun u13 => if u13 = 0 then R_writesLine_60 27 k (gl ls k).1.2.1 2 27 h11 else (gd (hTy h11 27 = 10) (hCe h11 27 16)).bind fun u14 => (gd (hTy h11 u14 = 21 ∧ 0 ≤ (w32 (9 * (k : Int))) ∧ (w32 (9 * (k : Int))) < hLn h11 u14) (hCe h11 u14 (w32 (9 * (k : Int))))).bind fun u15 => R_writesLine_60 27 k (gl ls k).1.2.1 u15 27 h11) else R_writesLine_63 27 k (gl ls k).1.2.1 h2) = r → R_writesLine 27 k h = r := by
    rintro r rfl
    unfold R_writesLine
    refine gB H.t27 ?_
    rw [H.p27_9]
    refine gB ⟨H.t34, by omega, by rw [H.l34]; omega⟩ ?_
    rw [m2]
    refine gB H.t27 ?_
    refine gB H.t27 ?_
    refine cB e1 ?_
    refine gB H1.t27 ?_
    rw [H1.p27_8]
    refine gB ⟨H1.t33, by omega, by rw [H1.l33]; omega⟩ ?_
    rw [v1]
    refine gB H1.t27 ?_
    refine cB e2 ?_
    by_cases s1 : (gl ls k).1.2.1 = 1
    · rw [if_pos s1, if_pos s1]; exact gB H2.t27 rfl
    · rw [if_neg s1, if_neg s1]
  by_cases s1 : (gl ls k).1.2.1 = 1
  · obtain ⟨h3, e3, W3⟩ := W2'.word (k := 5) (by omega) (by omega)
    have w3 := wdS_len (spA (gl ls k)) (nmR 5)
    have H3 := W3.1.1
    obtain ⟨-, ⟨d1, d9, -, d4⟩, -⟩ := (W3.1.2.1.2.2 k hk).1
    have fin : ∀ v : Int, (0 ≤ v ∧ v ≤ 1000000000) → v.toNat = (if (gl ls k).2.1.length = 0 then 2 else (gt (gl ls k).2.1 0).2.2.toNat) → ∃ h', R_writesLine_60 27 k (gl ls k).1.2.1 v 27 h3 = some h' ∧ QS h h' ls tp (spS (gl ls k)) := by
      intro v hv ve
      obtain ⟨h4, e4, W4, l4⟩ := W3.int hv (by omega)
      have eC : spC (gl ls k) = inS (wdS (spA (gl ls k)) 5) v.toNat := by
        unfold spC spB
        rw [if_pos s1, if_neg (by omega), ve]
      have W4' : QS h h4 ls tp (inS (wdS (spA (gl ls k)) 5) v.toNat) := W4
      have l4' : (inS (wdS (spA (gl ls k)) 5) v.toNat).length ≤ (wdS (spA (gl ls k)) (nmR 5)).length + 11 := l4
      rw [← eC] at W4' l4'
      obtain ⟨h5, e5, W5⟩ := wl_63 hk (fun _ => ⟨W4', by omega⟩) fun z => absurd s1 z
      refine ⟨h5, ?_, W5⟩
      unfold R_writesLine_60
      refine gB H3.t27 ?_
      exact cB e4 e5
    by_cases d0 : (gl ls k).2.1.length = 0
    · obtain ⟨h', e, W⟩ := fin 2 (by omega) (by rw [if_pos d0]; rfl)
      refine ⟨h', pre ((if_pos s1).trans ?_), W⟩
      refine cB e3 ?_
      refine gB H3.t27 ?_
      rw [H3.p27_12]
      refine gB ⟨H3.t37, by omega, by rw [H3.l37]; omega⟩ ?_
      rw [d1]
      exact ifT (by omega) e
    · obtain ⟨⟨b1, b2⟩, -⟩ := (okl.2.2.2.1 _ (gt_mem (show 0 < (gl ls k).2.1.length by omega))).2.q
      obtain ⟨h', e, W⟩ := fin _ ⟨b1, b2⟩ (by rw [if_neg d0])
      refine ⟨h', pre ((if_pos s1).trans ?_), W⟩
      refine cB e3 ?_
      refine gB H3.t27 ?_
      rw [H3.p27_12]
      refine gB ⟨H3.t37, by omega, by rw [H3.l37]; omega⟩ ?_
      rw [d1]
      refine ifF (by omega) ?_
      refine gB H3.t27 ?_
      rw [H3.p27_16, w32_e (z := 9 * (k : Int)) (by omega)]
      refine gB ⟨H3.t41, by omega, by rw [H3.l41]; omega⟩ ?_
      have := d4 0 (by omega)
      rw [show 9 * (k : Int) + ((0 : Nat) : Int) = 9 * (k : Int) by omega] at this
      rw [this]
      exact e
  · obtain ⟨h5, e5, W5⟩ := wl_63 hk (fun z => absurd z s1) fun _ => ⟨W2', by omega⟩
    exact ⟨h5, pre ((if_neg s1).trans e5), W5⟩
end RWL
theorem inS_l {l : List Int} {v : Int} (hv : 0 ≤ v ∧ v ≤ 1000000000) : (inS l v.toNat).length ≤ l.length + 11 := by
  have p : (10 : Nat) ^ 10 = 10000000000 := by decide
  have := inS_len (l := l) (v := v.toNat) (k := 10) (by omega) (by omega) (by omega)
  omega
theorem spS_len {l : LN} (ok : okL l) (d9 : l.2.1.length ≤ 9) (u9 : l.2.2.length ≤ 9) : (spS l).length ≤ 600 := by
  have okd : ∀ r ∈ l.2.1, okR r := fun r hr => (ok.2.2.2.1 r hr).1
  have okb : ∀ r ∈ l.2.1, okB r.2.2 := fun r hr => (ok.2.2.2.1 r hr).2
  have oku : ∀ r ∈ l.2.2, okR r := fun r hr => (ok.2.2.2.2.1 r hr).1
  obtain ⟨n1, n2⟩ := ok.1
  have a : (spA l).length ≤ 17 := by
    have x1 : (wdS [] (nmS l.1.2.1)).length ≤ 0 + 6 := (wdS_len [] _).1
    have x2 := inS_l (l := wdS [] (nmS l.1.2.1)) (v := l.1.1) (by omega)
    have : (spA l).length ≤ (wdS [] (nmS l.1.2.1)).length + 11 := x2
    omega
  have b : (spB l).length ≤ 45 := by
    unfold spB
    by_cases q : l.1.2.1 = 3 ∨ l.1.2.1 = 4
    · rw [if_pos q]
      obtain ⟨⟨a1, a2⟩, ⟨b1, b2⟩⟩ := ok.2.2.2.2.2.2.2.1 (by omega)
      have x1 := (wdS_len (spA l) 7).1
      have x2 := inS_l (l := wdS (spA l) 7) (v := l.1.2.2.1) (by omega)
      have x3 := inS_l (l := inS (wdS (spA l) 7) l.1.2.2.1.toNat) (v := l.1.2.2.2) (by omega)
      omega
    · rw [if_neg q]; omega
  have c : (spC l).length ≤ 62 := by
    unfold spC
    by_cases q : l.1.2.1 = 1
    · rw [if_pos q]
      have x1 := (wdS_len (spB l) 5).1
      by_cases z : l.2.1.length = 0
      · rw [if_pos z]
        have x2 := inS_l (l := wdS (spB l) 5) (v := 2) (by omega)
        have : (inS (wdS (spB l) 5) 2).length ≤ (wdS (spB l) 5).length + 11 := x2
        omega
      · rw [if_neg z]
        obtain ⟨b1, b2⟩ := okb _ (gt_mem (show 0 < l.2.1.length by omega))
        have x2 := inS_l (l := wdS (spB l) 5) (v := (gt l.2.1 0).2.2) (by omega)
        omega
    · rw [if_neg q]; omega
  have rl : ∀ (b : Bool) (t : List Int), (rwS b t l.2.1).length ≤ t.length + 18 * l.2.1.length := fun b t => by
    have := rwS_len (b := b) (l := t) okd fun _ => okb
    cases b with
    | true => exact this.2.1 rfl
    | false => have := this.2.2 rfl; omega
  have ul : ∀ (t : List Int), (rwS false t l.2.2).length ≤ t.length + 14 * l.2.2.length := fun t => (rwS_len (b := false) (l := t) oku fun z => by cases z).2.2 rfl
  have d : (spD l).length ≤ 599 := by
    unfold spD
    by_cases s4 : l.1.2.1 = 4
    · rw [if_pos s4]
      have x1 := (wdS_len (spC l) 8).1
      have x2 := rl true (wdS (spC l) 8)
      have x3 := (wdS_len (rwS true (wdS (spC l) 8) l.2.1) 9).1
      have x4 := ul (wdS (rwS true (wdS (spC l) 8) l.2.1) 9)
      omega
    rw [if_neg s4]
    by_cases s0 : l.1.2.1 = 0
    · rw [if_pos s0]; omega
    rw [if_neg s0]
    have x1 := (wdS_len (spC l) 6).1
    have x2 := rl (decide (l.1.2.1 = 2)) (wdS (spC l) 6)
    have x4 := ul (rwS (decide (l.1.2.1 = 2)) (wdS (spC l) 6) l.2.1)
    omega
  unfold spS
  rw [List.length_append]
  show (spD l).length + 1 ≤ 600
  omega
def spV (l : LN) (i : Int) : Int := if i = -1 then ((spS l).length : Int) else if i < ((spS l).length : Int) then (spS l).getD i.toNat 0 else -1
theorem q_spell (i j : Int) : sim (fun h => X_spell 0 i j h) (fun h => R_spell 27 i j h) := mk_sim fun ls tp ok => by
  by_cases q : (0 ≤ i ∧ i < ls.length) ∧ -1 ≤ j
  · obtain ⟨q, hj⟩ := q
    obtain ⟨k, rfl⟩ := Int.eq_ofNat_of_zero_le q.1
    have hk : k < ls.length := by omega
    refine ⟨spV (gl ls k) j, ls, tp, fun h x => ?_, fun h m => ?_⟩
    · obtain ⟨⟨hw, dw, U⟩, t⟩ := id x
      have H := U.1.1
      have L := U.1.ln hk
      have pk := U.1.pr hk
      obtain ⟨h', e, t', F, l4⟩ := s_write H (a := hCe h 2 k) pk.1 L (U.1.ok hk)
      have H' := H.sp F
      refine ⟨h', ?_, x.frS F fun b j z => ⟨z.mut, by unfold SPK at z; omega⟩, F.gr.mo fun b j z => by unfold SPK at z; unfold CZ; omega⟩
      show X_spell 0 k j h = _
      unfold X_spell
      refine gB H.t0 ?_
      rw [H.p0_0]
      refine gB H.t1 ?_
      refine has_if U.1 ?_
      rw [if_pos q]
      refine ifF (by omega) ?_
      refine gB H.t0 ?_
      rw [H.p0_4]
      refine gB H.t0 ?_
      refine gB H.t1 ?_
      rw [H.p1_0]
      refine U.1.lnA hk ?_
      refine gB H.t22 ?_
      refine cB e ?_
      unfold spV
      by_cases j1 : j = -1
      · refine ifT j1 ?_
        rw [if_pos j1]
        refine gB H'.t0 ?_
        rw [H'.p0_4]
        refine gB H'.t22 ?_
        rw [t'.1]
      · refine ifF j1 ?_
        rw [if_neg j1]
        refine gB H'.t0 ?_
        rw [H'.p0_4]
        refine gB H'.t22 ?_
        rw [t'.1]
        by_cases j2 : j < ((spS (gl ls k)).length : Int)
        · refine ifT j2 ?_
          rw [if_pos j2]
          refine gB H'.t0 ?_
          refine gB H'.t22 ?_
          rw [H'.p22_0]
          refine gB ⟨H'.t23, by omega, by rw [H'.l23]; omega⟩ ?_
          have := t'.2 j.toNat (by omega)
          rw [Int.toNat_of_nonneg (by omega)] at this
          rw [this]
        · refine ifF j2 ?_
          rw [if_neg j2]
    · obtain ⟨h', e, W⟩ := s_writesLine hk m
      have l4 := spS_len (m.2.1.2.2 k hk).2 (m.2.1.2.2 k hk).1.2.1.2.1 (m.2.1.2.2 k hk).1.2.2.2.1
      have H' := W.1.1
      have t' := W.2.1
      refine ⟨h', ?_, W.1, W.2.2.mo fun b j => RSK.mz⟩
      show R_spell 27 k j h = _
      unfold R_spell
      refine gB m.1.t27 ?_
      refine rhas_if m ?_
      rw [if_pos q]
      refine ifF (by omega) ?_
      refine gB m.1.t27 ?_
      refine cB e ?_
      unfold spV
      by_cases j1 : j = -1
      · refine ifT j1 ?_
        rw [if_pos j1]
        refine gB H'.t27 ?_
        rw [t'.1]
      · refine ifF j1 ?_
        rw [if_neg j1]
        refine gB H'.t27 ?_
        rw [t'.1]
        by_cases j2 : j < ((spS (gl ls k)).length : Int)
        · refine ifT j2 ?_
          rw [if_pos j2]
          refine gB H'.t27 ?_
          rw [H'.p27_32]
          refine gB ⟨H'.t50, by omega, by rw [H'.l50]; omega⟩ ?_
          have := t'.2 j.toNat (by omega)
          rw [Int.toNat_of_nonneg (by omega)] at this
          rw [this]
        · refine ifF j2 ?_
          rw [if_neg j2]
  · refine ⟨-1, ls, tp, xC.keep fun h hw dw U t => ?_, rC.keep fun h m => ?_⟩
    · have H := U.1.1
      show X_spell 0 i j h = _
      unfold X_spell
      refine gB H.t0 ?_
      rw [H.p0_0]
      refine gB H.t1 ?_
      refine has_if U.1 ?_
      by_cases q1 : 0 ≤ i ∧ i < ls.length
      · rw [if_pos q1]; exact ifT (by omega) rfl
      · rw [if_neg q1]
    · show R_spell 27 i j h = _
      unfold R_spell
      refine gB m.1.t27 ?_
      refine rhas_if m ?_
      by_cases q1 : 0 ≤ i ∧ i < ls.length
      · rw [if_pos q1]; exact ifT (by omega) rfl
      · rw [if_neg q1]
