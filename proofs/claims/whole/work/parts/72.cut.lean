/-! cut: a row is taken out -/
theorem gt_er {l : List RW} {j i : Nat} : gt (l.eraseIdx j) i = if i < j then gt l i else gt l (i + 1) := by
  unfold gt
  rw [List.getD_eq_getElem?_getD, List.getElem?_eraseIdx]
  by_cases q : i < j
  · rw [if_pos q, if_pos q, List.getD_eq_getElem?_getD]
  · rw [if_neg q, if_neg q, List.getD_eq_getElem?_getD]
theorem to_loop {s : Int} {n : Nat} (hn : 1 ≤ n ∧ n ≤ 9) : ∀ (k f p : Nat) (h : AH), p + k = 3 * (n - 1) → k < f → SB h s → hCe h s 1 = (n : Int) → ∃ h', Side_takeOut_12 f s p h = some h' ∧ Fr (SK s) h h' ∧ hCe h' s 1 = ((n - 1 : Nat) : Int) ∧ ∀ i : Nat, hCe h' (s + 1) i = if p ≤ i ∧ i < 3 * (n - 1) then hCe h (s + 1) ((i + 3 : Nat) : Int) else hCe h (s + 1) i := by
  intro k
  induction k with
  | zero =>
    intro f p h hp hf B c
    obtain ⟨f, rfl, -⟩ := fu_pos hf
    refine ⟨hSet h s 1 ((n - 1 : Nat) : Int), ?_, Fr.set (Or.inl ⟨rfl, by omega⟩), cS _ _ _ _, fun i => ?_⟩
    · unfold Side_takeOut_12
      refine gB B.1 ?_
      rw [c, w32_e (z := (p : Int) + 3) (by omega), w32_e (z := (n : Int) * 3) (by omega)]
      refine ifF (by omega) ?_
      refine gB B.1 ?_
      rw [w32_e (by omega), show (n : Int) - 1 = ((n - 1 : Nat) : Int) by omega]
      exact gB B.1 rfl
    · rw [cN (by omega), if_neg (by omega)]
  | succ k ih =>
    intro f p h hp hf B c
    obtain ⟨f, rfl, hf⟩ := fu_pos hf
    have F1 : Fr (SK s) h (hSet h (s + 1) p (hCe h (s + 1) ((p : Int) + 3))) := Fr.set (Or.inr rfl)
    obtain ⟨h', e', F', c', v'⟩ := ih f (p + 1) (hSet h (s + 1) p (hCe h (s + 1) ((p : Int) + 3))) (by omega) (by omega) (B.of Same.set (cN (by omega))) ((cN (by omega)).trans c)
    refine ⟨h', ?_, F1.tr F', c', fun i => ?_⟩
    · rw [← e']
      conv => lhs; unfold Side_takeOut_12
      refine gB B.1 ?_
      rw [c, w32_e (z := (p : Int) + 3) (by omega), w32_e (z := (n : Int) * 3) (by omega), w32_e (z := (p : Int) + 1) (by omega)]
      refine ifT (by omega) ?_
      refine gB B.1 ?_
      refine gB B.1 ?_
      rw [B.2.1]
      refine gB ⟨B.2.2.1, by omega, by rw [B.2.2.2]; omega⟩ ?_
      refine gB ⟨B.2.2.1, by omega, by rw [B.2.2.2]; omega⟩ ?_
      rfl
    · rw [v' i]
      by_cases q : i = p
      · subst q
        rw [if_neg (by omega), cS, if_pos (by omega)]
        rfl
      · by_cases y : p + 1 ≤ i ∧ i < 3 * (n - 1)
        · rw [if_pos y, cN (by omega), if_pos (by omega)]
        · rw [if_neg y, cN (by omega), if_neg (by omega)]
theorem s_takeOut {h : AH} {s : Int} {l : List RW} (S : SD h s l) {j : Nat} (hj : j < l.length) : ∃ h', Side_takeOut s j h = some h' ∧ Fr (SK s) h h' ∧ SD h' s (l.eraseIdx j) := by
  have l9 := S.2.2.1
  obtain ⟨h', e, F, c, v⟩ := to_loop (s := s) (n := l.length) (by omega) (3 * (l.length - 1) - 3 * j) FU (3 * j) h (by omega) (fu_big (by omega)) S.1 S.2.1
  have len : (l.eraseIdx j).length = l.length - 1 := List.length_eraseIdx_of_lt hj
  refine ⟨h', ?_, F, S.1.of F.1 (F.2 _ _ (by unfold SK; omega)), by rw [c, len], by omega, fun i hi => ?_⟩
  · unfold Side_takeOut
    refine gB S.1.1 ?_
    refine cB (s_sHas S) ?_
    rw [decide_eq_true (by omega)]
    refine ifF one_ne ?_
    rw [w32_e (z := (j : Int) * 3) (by omega), show (j : Int) * 3 = ((3 * j : Nat) : Int) by omega]
    exact e
  · rw [len] at hi
    have v0 := v (3 * i)
    have v1 := v (3 * i + 1)
    have v2 := v (3 * i + 2)
    rw [gt_er]
    by_cases q : i < j
    · rw [if_pos q]
      have d := S.2.2.2 i (by omega)
      rw [if_neg (by omega)] at v0 v1 v2
      exact ⟨v0.trans d.1, v1.trans d.2.1, v2.trans d.2.2⟩
    · rw [if_neg q]
      have d := S.2.2.2 (i + 1) (by omega)
      rw [if_pos (by omega)] at v0 v1 v2
      refine ⟨v0.trans ?_, v1.trans ?_, v2.trans ?_⟩
      · rw [← d.1]; congr 1
      · rw [← d.2.1]; congr 1
      · rw [← d.2.2]; congr 1
theorem rct_d {k n : Nat} (hk : k ≤ 60) (hn : 1 ≤ n ∧ n ≤ 9) : ∀ (m f p : Nat) (h : AH), p + m = 9 * k + n - 1 → 9 * k ≤ p → m < f → Sh h → hCe h 37 k = (n : Int) → ∃ h', R_cut_41 f 27 k 0 n p h = some (((n - 1 : Nat) : Int), h') ∧ Fr (MK k) h h' ∧ hCe h' 37 k = ((n - 1 : Nat) : Int) ∧ (∀ b j : Int, (b < 37 ∨ b = 38 ∨ 41 < b) → hCe h' b j = hCe h b j) ∧ ∀ b : Int, 39 ≤ b → b ≤ 41 → ∀ i : Nat, hCe h' b i = if p ≤ i ∧ i < 9 * k + n - 1 then hCe h b ((i + 1 : Nat) : Int) else hCe h b i := by
  intro m
  induction m with
  | zero =>
    intro f p h hp h9 hf H c
    obtain ⟨f, rfl, -⟩ := fu_pos hf
    refine ⟨hSet h 37 k ((n - 1 : Nat) : Int), ?_, Fr.set (by unfold MK; omega), cS _ _ _ _, fun b j z => cN (by omega), fun b b1 b2 i => ?_⟩
    · unfold R_cut_41
      rw [w32_e (z := 9 * (k : Int)) (by omega), w32_e (z := 9 * (k : Int) + n) (by omega), w32_e (z := 9 * (k : Int) + n - 1) (by omega)]
      refine ifF (by omega) (ifT rfl ?_)
      refine gB H.t27 ?_
      rw [H.p27_12]
      refine gB ⟨H.t37, by omega, by rw [H.l37]; omega⟩ ?_
      rw [c, w32_e (z := (n : Int) - 1) (by omega), show (n : Int) - 1 = ((n - 1 : Nat) : Int) by omega]
      exact gB ⟨H.t37, by omega, by rw [H.l37]; omega⟩ rfl
    · rw [cN (by omega), if_neg (by omega)]
  | succ m ih =>
    intro f p h hp h9 hf H c
    obtain ⟨f, rfl, hf⟩ := fu_pos hf
    let g : AH := hSet (hSet (hSet h 39 p (hCe h 39 ((p : Int) + 1))) 40 p (hCe h 40 ((p : Int) + 1))) 41 p (hCe h 41 ((p : Int) + 1))
    have F1 : Fr (MK k) h g := Fr.setT (Fr.setT (Fr.set (by unfold MK; omega)) (by unfold MK; omega)) (by unfold MK; omega)
    have G : Sh g := H.fr F1 fun b j => MK.mut
    have cg : ∀ b j : Int, (b < 39 ∨ 41 < b ∨ j ≠ (p : Int)) → hCe g b j = hCe h b j := fun b j z => by
      show hCe (hSet (hSet (hSet h 39 p (hCe h 39 ((p : Int) + 1))) 40 p (hCe h 40 ((p : Int) + 1))) 41 p (hCe h 41 ((p : Int) + 1))) b j = hCe h b j
      rw [cN (by omega), cN (by omega), cN (by omega)]
    have cp : ∀ b : Int, 39 ≤ b → b ≤ 41 → hCe g b p = hCe h b ((p : Int) + 1) := fun b b1 b2 => by
      show hCe (hSet (hSet (hSet h 39 p (hCe h 39 ((p : Int) + 1))) 40 p (hCe h 40 ((p : Int) + 1))) 41 p (hCe h 41 ((p : Int) + 1))) b p = _
      rcases (show b = 39 ∨ b = 40 ∨ b = 41 by omega) with rfl | rfl | rfl
      · rw [cN (by omega), cN (by omega), cS]
      · rw [cN (by omega), cS]
      · rw [cS]
    obtain ⟨h', e', F', c', o', v'⟩ := ih f (p + 1) g (by omega) (by omega) (by omega) G ((cg _ _ (by omega)).trans c)
    refine ⟨h', ?_, F1.tr F', c', fun b j z => (o' b j z).trans (cg _ _ (by omega)), fun b b1 b2 i => ?_⟩
    · rw [← e']
      conv => lhs; unfold R_cut_41
      rw [w32_e (z := 9 * (k : Int)) (by omega), w32_e (z := 9 * (k : Int) + n) (by omega), w32_e (z := 9 * (k : Int) + n - 1) (by omega), w32_e (z := (p : Int) + 1) (by omega)]
      refine ifT (by omega) (ifT rfl ?_)
      simp (disch := omega) only [gdT, gdS, true_and, and_true, tS, lS, cS, cN, Option.bind_some, H.t27, H.p27_14, H.p27_15, H.p27_16, H.t39, H.l39, H.t40, H.l40, H.t41, H.l41]
      rfl
    · rw [v' b b1 b2 i]
      by_cases q : i = p
      · subst q
        rw [if_neg (by omega), cp b b1 b2, if_pos (by omega)]
        rfl
      · by_cases y : p + 1 ≤ i ∧ i < 9 * k + n - 1
        · rw [if_pos y, cg _ _ (by omega), if_pos (by omega)]
        · rw [if_neg y, cg _ _ (by omega), if_neg (by omega)]
theorem rct_u {v : Int} (hv : v ≠ 0) {k n : Nat} (hk : k ≤ 60) (hn : 1 ≤ n ∧ n ≤ 9) : ∀ (m f p : Nat) (h : AH), p + m = 9 * k + n - 1 → 9 * k ≤ p → m < f → Sh h → hCe h 38 k = (n : Int) → ∃ h', R_cut_41 f 27 k v n p h = some (((n - 1 : Nat) : Int), h') ∧ Fr (MK k) h h' ∧ hCe h' 38 k = ((n - 1 : Nat) : Int) ∧ (∀ b j : Int, (b < 38 ∨ (39 ≤ b ∧ b ≤ 41) ∨ 43 < b) → hCe h' b j = hCe h b j) ∧ ∀ b : Int, 42 ≤ b → b ≤ 43 → ∀ i : Nat, hCe h' b i = if p ≤ i ∧ i < 9 * k + n - 1 then hCe h b ((i + 1 : Nat) : Int) else hCe h b i := by
  intro m
  induction m with
  | zero =>
    intro f p h hp h9 hf H c
    obtain ⟨f, rfl, -⟩ := fu_pos hf
    refine ⟨hSet h 38 k ((n - 1 : Nat) : Int), ?_, Fr.set (by unfold MK; omega), cS _ _ _ _, fun b j z => cN (by omega), fun b b1 b2 i => ?_⟩
    · unfold R_cut_41
      rw [w32_e (z := 9 * (k : Int)) (by omega), w32_e (z := 9 * (k : Int) + n) (by omega), w32_e (z := 9 * (k : Int) + n - 1) (by omega)]
      refine ifF (by omega) (ifF hv ?_)
      refine gB H.t27 ?_
      rw [H.p27_13]
      refine gB ⟨H.t38, by omega, by rw [H.l38]; omega⟩ ?_
      rw [c, w32_e (z := (n : Int) - 1) (by omega), show (n : Int) - 1 = ((n - 1 : Nat) : Int) by omega]
      exact gB ⟨H.t38, by omega, by rw [H.l38]; omega⟩ rfl
    · rw [cN (by omega), if_neg (by omega)]
  | succ m ih =>
    intro f p h hp h9 hf H c
    obtain ⟨f, rfl, hf⟩ := fu_pos hf
    let g : AH := hSet (hSet h 42 p (hCe h 42 ((p : Int) + 1))) 43 p (hCe h 43 ((p : Int) + 1))
    have F1 : Fr (MK k) h g := Fr.setT (Fr.set (by unfold MK; omega)) (by unfold MK; omega)
    have G : Sh g := H.fr F1 fun b j => MK.mut
    have cg : ∀ b j : Int, (b < 42 ∨ 43 < b ∨ j ≠ (p : Int)) → hCe g b j = hCe h b j := fun b j z => by
      show hCe (hSet (hSet h 42 p (hCe h 42 ((p : Int) + 1))) 43 p (hCe h 43 ((p : Int) + 1))) b j = hCe h b j
      rw [cN (by omega), cN (by omega)]
    have cp : ∀ b : Int, 42 ≤ b → b ≤ 43 → hCe g b p = hCe h b ((p : Int) + 1) := fun b b1 b2 => by
      show hCe (hSet (hSet h 42 p (hCe h 42 ((p : Int) + 1))) 43 p (hCe h 43 ((p : Int) + 1))) b p = _
      rcases (show b = 42 ∨ b = 43 by omega) with rfl | rfl
      · rw [cN (by omega), cS]
      · rw [cS]
    obtain ⟨h', e', F', c', o', v'⟩ := ih f (p + 1) g (by omega) (by omega) (by omega) G ((cg _ _ (by omega)).trans c)
    refine ⟨h', ?_, F1.tr F', c', fun b j z => (o' b j z).trans (cg _ _ (by omega)), fun b b1 b2 i => ?_⟩
    · rw [← e']
      conv => lhs; unfold R_cut_41
      rw [w32_e (z := 9 * (k : Int)) (by omega), w32_e (z := 9 * (k : Int) + n) (by omega), w32_e (z := 9 * (k : Int) + n - 1) (by omega), w32_e (z := (p : Int) + 1) (by omega)]
      refine ifT (by omega) (ifF hv ?_)
      simp (disch := omega) only [gdT, gdS, true_and, and_true, tS, lS, cS, cN, Option.bind_some, H.t27, H.p27_17, H.p27_18, H.t42, H.l42, H.t43, H.l43]
      rfl
    · rw [v' b b1 b2 i]
      by_cases q : i = p
      · subst q
        rw [if_neg (by omega), cp b b1 b2, if_pos (by omega)]
        rfl
      · by_cases y : p + 1 ≤ i ∧ i < 9 * k + n - 1
        · rw [if_pos y, cg _ _ (by omega), if_pos (by omega)]
        · rw [if_neg y, cg _ _ (by omega), if_neg (by omega)]
theorem q_cut (hM : MRok) (i v j : Int) : sim (fun h => X_cut 0 i v j h) (fun h => R_cut 27 i v j h) := mk_sim fun ls tp ok => by
  have l60 := ok.1
  by_cases q : rowOK ls i v j
  · obtain ⟨⟨i0, i1⟩, j0, j1⟩ := id q
    obtain ⟨k, rfl⟩ := Int.eq_ofNat_of_zero_le i0
    obtain ⟨n, rfl⟩ := Int.eq_ofNat_of_zero_le j0
    have hk : k < ls.length := by omega
    have j1' : n < (sdO (gl ls k) v).length := by have : (n : Int) < ((sdO (gl ls k) v).length : Int) := j1; omega
    have okl := ok.2.1 k hk
    have len : ((sdO (gl ls k) v).eraseIdx n).length = (sdO (gl ls k) v).length - 1 := List.length_eraseIdx_of_lt j1'
    have okn : okL (putS (gl ls k) v ((sdO (gl ls k) v).eraseIdx n)) := ok_put okl (fun r hr => ok_sd okl r (List.mem_of_mem_eraseIdx hr)) fun z => by rw [z]; rfl
    refine ⟨(((sdO (gl ls k) v).length - 1 : Nat) : Int), _, tp, xC.ch hM hk okn fun h hw dw U => ?_, rC.ch hk okn fun h m => ?_⟩
    · have H := U.1.1
      have L := U.1.ln hk
      have S := L.sd v
      have p := U.1.pr hk
      have sb := sdA_bd (a := hCe h 2 k) (v := v)
      obtain ⟨h', e', F1, S'⟩ := s_takeOut S j1'
      have L1 := L.sdP F1 S'
      have F2 : Fr (LK (hCe h 2 k)) h h' := F1.mo fun b j => sdA_lk
      have H' := H.fr F2 fun b j => LK.mut (BA_of p)
      refine ⟨hSet h' (hCe h 2 k) 6 (-1), F2.setT (Or.inl ⟨rfl, by omega⟩), L1.s6, Or.inl (cS _ _ _ _), fun h2 F3 U2 e => ?_⟩
      have c1 : hCe h2 (sdA (hCe h 2 k) v) 1 = (((sdO (gl ls k) v).length - 1 : Nat) : Int) := by
        rw [F3.2 _ _ (by unfold CK; omega), cN (by omega), S'.2.1, len]
      have t2 : hTy h2 (sdA (hCe h 2 k) v) = 6 := (F3.1.ty _).trans S'.1.1
      show X_cut 0 k v n h = _
      unfold X_cut
      refine gB H.t0 ?_
      rw [H.p0_0]
      refine gB H.t1 ?_
      refine row_if U.1 ?_
      rw [if_pos q]
      refine gB H.t0 ?_
      refine gB H.t1 ?_
      rw [H.p1_0]
      refine U.1.lnA hk ?_
      refine gB L.1.1 ?_
      refine cB (s_sideA L) ?_
      refine gB S.1.1 ?_
      refine cB e' ?_
      refine gB L1.1.1 ?_
      refine gB (by rw [tS]; exact H'.t0) ?_
      rw [cN (by omega), H'.p0_0]
      refine gB (by rw [tS]; exact H'.t1) ?_
      refine cB e ?_
      refine gB t2 ?_
      rw [c1]
    · have H := m.1
      have L := (m.2.1.2.2 k hk).1
      obtain ⟨a, ⟨d1, d2, d3, d4⟩, u1, u2, u3⟩ := id L
      by_cases v0 : v = 0
      · subst v0
        have j2 : n < (gl ls k).2.1.length := j1'
        obtain ⟨h', e, F, c, o, vv⟩ := rct_d (k := k) (n := (gl ls k).2.1.length) (by omega) (by omega) (9 * k + (gl ls k).2.1.length - 1 - (9 * k + n)) FU (9 * k + n) h (by omega) (by omega) (fu_big (by omega)) H d1
        have rw' : ∀ (b : Int), 39 ≤ b → b ≤ 41 → ∀ i : Nat, i < (gl ls k).2.1.length - 1 → hCe h' b (9 * (k : Int) + i) = if i < n then hCe h b (9 * (k : Int) + i) else hCe h b (9 * (k : Int) + ((i + 1 : Nat) : Int)) := fun b b1 b2 i hi => by
          have := vv b b1 b2 (9 * k + i)
          rw [show ((9 * k + i : Nat) : Int) = 9 * (k : Int) + i by omega] at this
          rw [this]
          by_cases y : i < n
          · rw [if_neg (by omega), if_pos y]
          · rw [if_pos (by omega), if_neg y]; congr 1
        refine ⟨h', ?_, F, ?_⟩
        · show R_cut 27 k 0 n h = _
          unfold R_cut
          refine gB H.t27 ?_
          refine rrow_if m ?_
          rw [if_pos q]
          refine ifT rfl ?_
          refine gB H.t27 ?_
          rw [H.p27_12]
          refine gB ⟨H.t37, by omega, by rw [H.l37]; omega⟩ ?_
          rw [d1, w32_e (z := 9 * (k : Int)) (by omega), w32_e (z := 9 * (k : Int) + n) (by omega)]
          exact e
        · show LM h' k ((gl ls k).1, (gl ls k).2.1.eraseIdx n, (gl ls k).2.2)
          have len' : ((gl ls k).2.1.eraseIdx n).length = (gl ls k).2.1.length - 1 := len
          refine ⟨?_, ⟨by rw [len']; exact c, (by show ((gl ls k).2.1.eraseIdx n).length ≤ 9; omega), fun i hi => ?_, fun i hi => ?_⟩, (o _ _ (by omega)).trans u1, u2, fun i hi => ?_⟩
          · unfold hdM at *
            rw [o _ _ (by omega), o _ _ (by omega), o _ _ (by omega), o _ _ (by omega)]
            exact a
          · rw [len'] at hi
            show _ = (gt ((gl ls k).2.1.eraseIdx n) i).1 ∧ _ = (gt ((gl ls k).2.1.eraseIdx n) i).2.1
            rw [rw' 39 (by omega) (by omega) i hi, rw' 40 (by omega) (by omega) i hi, gt_er]
            by_cases y : i < n
            · rw [if_pos y, if_pos y, if_pos y]; exact d3 i (by omega)
            · rw [if_neg y, if_neg y, if_neg y]; exact d3 (i + 1) (by omega)
          · rw [len'] at hi
            show _ = (gt ((gl ls k).2.1.eraseIdx n) i).2.2
            rw [rw' 41 (by omega) (by omega) i hi, gt_er]
            by_cases y : i < n
            · rw [if_pos y, if_pos y]; exact d4 i (by omega)
            · rw [if_neg y, if_neg y]; exact d4 (i + 1) (by omega)
          · rw [o _ _ (by omega), o _ _ (by omega)]; exact u3 i hi
      · have sd : sdO (gl ls k) v = (gl ls k).2.2 := by unfold sdO; rw [if_neg v0]
        rw [sd] at j1' len ⊢
        obtain ⟨h', e, F, c, o, vv⟩ := rct_u v0 (k := k) (n := (gl ls k).2.2.length) (by omega) (by omega) (9 * k + (gl ls k).2.2.length - 1 - (9 * k + n)) FU (9 * k + n) h (by omega) (by omega) (fu_big (by omega)) H u1
        have rw' : ∀ (b : Int), 42 ≤ b → b ≤ 43 → ∀ i : Nat, i < (gl ls k).2.2.length - 1 → hCe h' b (9 * (k : Int) + i) = if i < n then hCe h b (9 * (k : Int) + i) else hCe h b (9 * (k : Int) + ((i + 1 : Nat) : Int)) := fun b b1 b2 i hi => by
          have := vv b b1 b2 (9 * k + i)
          rw [show ((9 * k + i : Nat) : Int) = 9 * (k : Int) + i by omega] at this
          rw [this]
          by_cases y : i < n
          · rw [if_neg (by omega), if_pos y]
          · rw [if_pos (by omega), if_neg y]; congr 1
        refine ⟨h', ?_, F, ?_⟩
        · show R_cut 27 k v n h = _
          unfold R_cut
          refine gB H.t27 ?_
          refine rrow_if m ?_
          rw [if_pos q]
          refine ifF v0 ?_
          refine gB H.t27 ?_
          rw [H.p27_13]
          refine gB ⟨H.t38, by omega, by rw [H.l38]; omega⟩ ?_
          rw [u1, w32_e (z := 9 * (k : Int)) (by omega), w32_e (z := 9 * (k : Int) + n) (by omega)]
          exact e
        · have pS : putS (gl ls k) v ((gl ls k).2.2.eraseIdx n) = ((gl ls k).1, (gl ls k).2.1, (gl ls k).2.2.eraseIdx n) := by unfold putS; rw [if_neg v0]
          rw [pS]
          refine ⟨?_, ⟨(o _ _ (by omega)).trans d1, d2, fun i hi => ?_, fun i hi => (o _ _ (by omega)).trans (d4 i hi)⟩, by rw [len]; exact c, (by show ((gl ls k).2.2.eraseIdx n).length ≤ 9; omega), fun i hi => ?_⟩
          · unfold hdM at *
            rw [o _ _ (by omega), o _ _ (by omega), o _ _ (by omega), o _ _ (by omega)]
            exact a
          · rw [o _ _ (by omega), o _ _ (by omega)]; exact d3 i hi
          · rw [len] at hi
            show _ = (gt ((gl ls k).2.2.eraseIdx n) i).1 ∧ _ = (gt ((gl ls k).2.2.eraseIdx n) i).2.1
            rw [rw' 42 (by omega) (by omega) i hi, rw' 43 (by omega) (by omega) i hi, gt_er]
            by_cases y : i < n
            · rw [if_pos y, if_pos y, if_pos y]; exact u3 i (by omega)
            · rw [if_neg y, if_neg y, if_neg y]; exact u3 (i + 1) (by omega)
  · refine ⟨-1, ls, tp, xC.keep fun h hw dw U t => ?_, rC.keep fun h m => ?_⟩
    · have H := U.1.1
      show X_cut 0 i v j h = _
      unfold X_cut
      refine gB H.t0 ?_
      rw [H.p0_0]
      refine gB H.t1 ?_
      refine row_if U.1 ?_
      rw [if_neg q]
    · show R_cut 27 i v j h = _
      unfold R_cut
      refine gB m.1.t27 ?_
      refine rrow_if m ?_
      rw [if_neg q]
