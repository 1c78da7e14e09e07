/-! fewest, mend -/
def fwS (n : Int) : Nat → Int → Int → Int → Int
  | 0, _, b, _ => b
  | k + 1, s, b, c => if (nDn n s : Int) + nUp n s < c then fwS n k (s + 1) s ((nDn n s : Int) + nUp n s) else fwS n k (s + 1) b c
theorem lyOK_s {n s : Int} (hs : 1 ≤ s) : lyOK n s = (decide (prS n = 1) && decide (n ≠ 2)) := by
  unfold lyOK
  rw [if_neg (by omega)]
theorem xf_loop (hM : MRok) {n : Int} (hn : okN n) (ly : ∀ s : Int, 1 ≤ s → lyOK n s = true) {hw : Nat} {ls : List LN} : ∀ (k f : Nat) (s b c : Int) (h : AH) (dw : Nat), s + k = 5 → 1 ≤ s → k < f → FUL h hw dw ls → ∃ h' dw', X_fewest_18 f 0 n b c s h = some (fwS n k s b c, h') ∧ FUL h' hw dw' ls ∧ Gr BP h h' := by
  intro k
  induction k with
  | zero =>
    intro f s b c h dw hs s1 hf U
    obtain ⟨f, rfl, -⟩ := fu_pos hf
    refine ⟨h, dw, ?_, U, Gr.rf⟩
    unfold X_fewest_18
    exact ifT (by omega) rfl
  | succ k ih =>
    intro f s b c h dw hs s1 hf U
    obtain ⟨f, rfl, hf⟩ := fu_pos hf
    have H := U.1.1
    obtain ⟨h2, dw1, pp, e2, U2, lt1, G1, ir, B2, y2⟩ := s_laidAlone hM U hn (s := s) (by omega)
    obtain ⟨c6, L2⟩ := y2 (ly s s1)
    rw [if_neg (show ¬ s = 0 by omega)] at L2
    rw [if_pos (ly s s1)] at e2
    have rc : Line_rowCount (hCe h2 13 0) h2 = some ((nDn n s : Int) + nUp n s) := by
      rw [s_rowCount L2]
      show some ((((lyS n s 0).1 ++ (lyS n s 0).2).length : Nat) : Int) = _
      rw [List.length_append]
      rfl
    have st : ∀ {r}, (if (nDn n s : Int) + nUp n s < c then X_fewest_18 f 0 n s ((nDn n s : Int) + nUp n s) (s + 1) h2 else X_fewest_18 f 0 n b c (s + 1) h2) = r → X_fewest_18 (f + 1) 0 n b c s h = r := by
      rintro r rfl
      conv => lhs; unfold X_fewest_18
      refine ifF (by omega) ?_
      refine gB H.t0 ?_
      rw [H.p0_1]
      refine gB H.t6 ?_
      refine cB e2 ?_
      refine ifF (by show ¬ hCe h2 13 0 < 0; omega) ?_
      refine gB B2.1 ?_
      refine cB rc ?_
      rw [w32_e (z := s + 1) (by omega)]
      congr 1
      refine gB B2.1 ?_
      exact cB rc rfl
    by_cases q : (nDn n s : Int) + nUp n s < c
    · obtain ⟨h', dw', e', U', G'⟩ := ih f (s + 1) s ((nDn n s : Int) + nUp n s) h2 dw1 (by omega) (by omega) (by omega) U2
      refine ⟨h', dw', st ((if_pos q).trans (e'.trans ?_)), U', G1.tr G'⟩
      conv => rhs; unfold fwS
      rw [if_pos q]
    · obtain ⟨h', dw', e', U', G'⟩ := ih f (s + 1) b c h2 dw1 (by omega) (by omega) (by omega) U2
      refine ⟨h', dw', st ((if_neg q).trans (e'.trans ?_)), U', G1.tr G'⟩
      conv => rhs; unfold fwS
      rw [if_neg q]
theorem xf_none (hM : MRok) {n : Int} (hn : okN n) (ly : ∀ s : Int, 1 ≤ s → lyOK n s = false) {hw : Nat} {ls : List LN} : ∀ (k f : Nat) (s b c : Int) (h : AH) (dw : Nat), s + k = 5 → 1 ≤ s → k < f → FUL h hw dw ls → ∃ h' dw', X_fewest_18 f 0 n b c s h = some (b, h') ∧ FUL h' hw dw' ls ∧ Gr BP h h' := by
  intro k
  induction k with
  | zero =>
    intro f s b c h dw hs s1 hf U
    obtain ⟨f, rfl, -⟩ := fu_pos hf
    refine ⟨h, dw, ?_, U, Gr.rf⟩
    unfold X_fewest_18
    exact ifT (by omega) rfl
  | succ k ih =>
    intro f s b c h dw hs s1 hf U
    obtain ⟨f, rfl, hf⟩ := fu_pos hf
    have H := U.1.1
    obtain ⟨h2, dw1, pp, e2, U2, lt1, G1, -⟩ := s_laidAlone hM U hn (s := s) (by omega)
    rw [ly s s1, if_neg (show ¬ false = true by decide)] at e2
    obtain ⟨h', dw', e', U', G'⟩ := ih f (s + 1) b c h2 dw1 (by omega) (by omega) (by omega) U2
    refine ⟨h', dw', ?_, U', G1.tr G'⟩
    conv => lhs; unfold X_fewest_18
    refine ifF (by omega) ?_
    refine gB H.t0 ?_
    rw [H.p0_1]
    refine gB H.t6 ?_
    refine cB e2 ?_
    refine ifT (by show (-1 : Int) < 0; omega) ?_
    rw [w32_e (z := s + 1) (by omega)]
    exact e'
theorem rf_loop {n : Int} (nb : nbOK n) (pn : prS n = 1) {ls : List LN} {tp : List Int} : ∀ (k f : Nat) (s b c : Int) (h : AH), s + k = 5 → 1 ≤ s → k < f → MS h ls tp → ∃ h', R_fewest_34 f 27 n b c s h = some (fwS n k s b c, h') ∧ MS h' ls tp ∧ Fr VK h h' := by
  intro k
  induction k with
  | zero =>
    intro f s b c h hs s1 hf m
    obtain ⟨f, rfl, -⟩ := fu_pos hf
    refine ⟨h, ?_, m, Fr.rf⟩
    unfold R_fewest_34
    exact ifT (by omega) rfl
  | succ k ih =>
    intro f s b c h hs s1 hf m
    obtain ⟨f, rfl, hf⟩ := fu_pos hf
    have H := m.1
    obtain ⟨h2, e2, F2, m2, b1, b2⟩ := r_needs m nb pn (s := s) (by omega)
    have st : ∀ {r}, (if (nDn n s : Int) + nUp n s < c then R_fewest_34 f 27 n s ((nDn n s : Int) + nUp n s) (s + 1) h2 else R_fewest_34 f 27 n b c (s + 1) h2) = r → R_fewest_34 (f + 1) 27 n b c s h = r := by
      rintro r rfl
      conv => lhs; unfold R_fewest_34
      refine ifF (by omega) ?_
      refine gB H.t27 ?_
      refine cB e2 ?_
      dsimp only
      rw [td_e (by omega), tm_e (by omega), show (10 * (nDn n s : Int) + nUp n s) / 10 = nDn n s by omega, show (10 * (nDn n s : Int) + nUp n s) % 10 = nUp n s by omega, w32_e (z := (nDn n s : Int)) (by omega)]
      refine gB (by omega) ?_
      refine gB (by omega) ?_
      rw [w32_e (z := (nDn n s : Int) + nUp n s) (by omega), w32_e (z := s + 1) (by omega)]
    by_cases q : (nDn n s : Int) + nUp n s < c
    · obtain ⟨h', e', m', F'⟩ := ih f (s + 1) s ((nDn n s : Int) + nUp n s) h2 (by omega) (by omega) (by omega) m2
      refine ⟨h', st ((if_pos q).trans (e'.trans ?_)), m', F2.tr F'⟩
      conv => rhs; unfold fwS
      rw [if_pos q]
    · obtain ⟨h', e', m', F'⟩ := ih f (s + 1) b c h2 (by omega) (by omega) (by omega) m2
      refine ⟨h', st ((if_neg q).trans (e'.trans ?_)), m', F2.tr F'⟩
      conv => rhs; unfold fwS
      rw [if_neg q]
theorem q_fewest (hM : MRok) (n : Int) : sim (fun h => X_fewest 0 n h) (fun h => R_fewest 27 n h) := by
  intro h ls tp x m
  obtain ⟨⟨hw, dw, U⟩, t⟩ := x
  by_cases hn : 2 ≤ n ∧ n ≤ 1000000000
  · by_cases P : prS n = 1 ∧ n ≠ 2
    · have nb := isP_nb hn (prS_isP P.1) P.2
      have ly : ∀ s : Int, 1 ≤ s → lyOK n s = true := fun s s1 => by rw [lyOK_s s1, decide_eq_true P.1, decide_eq_true P.2]; rfl
      obtain ⟨h1, dw1, e1, U1, G1⟩ := xf_loop hM hn ly 4 FU 1 (-2) 19 h dw (by omega) (by omega) (fu_big (by omega)) U
      have m1 := m.gr (G1.mo fun b j => BP.cz) U1.1.1
      obtain ⟨h2, e2, m2, F2⟩ := rf_loop nb P.1 4 FU 1 (-1) 99 h1 (by omega) (by omega) (fu_big (by omega)) m1
      obtain ⟨-, -, -, -, c1, c2⟩ := r_needs m nb P.1 (s := 1) (by omega)
      have eq : fwS n 4 1 (-2) 19 = fwS n 4 1 (-1) 99 := by
        unfold fwS
        rw [if_pos (show (nDn n 1 : Int) + nUp n 1 < 19 by omega), if_pos (show (nDn n 1 : Int) + nUp n 1 < 99 by omega)]
      refine ⟨fwS n 4 1 (-1) 99, h1, h2, ls, tp, ?_, ?_, U1.1.1, XS.frS ⟨⟨hw, dw1, U1⟩, t.bp G1 U.1.1⟩ F2 fun b j z => ⟨z.mut, by have := z.far; omega⟩, m2⟩
      · show X_fewest 0 n h = _
        unfold X_fewest
        refine num_if ?_
        rw [if_pos hn, e1, eq]
      · show R_fewest 27 n h1 = _
        unfold R_fewest
        refine rnum_if ?_
        rw [if_pos hn]
        refine ifF P.2 ?_
        refine cB (s_RisPrime2 (n := n) (by omega)) ?_
        rw [P.1]
        exact ifF one_ne e2
    · have ly : ∀ s : Int, 1 ≤ s → lyOK n s = false := fun s s1 => by
        rw [lyOK_s s1]
        by_cases p : prS n = 1
        · rw [decide_eq_true p, decide_eq_false (show ¬ n ≠ 2 from fun z => P ⟨p, z⟩)]; rfl
        · rw [decide_eq_false p]; rfl
      obtain ⟨h1, dw1, e1, U1, G1⟩ := xf_none hM hn ly 4 FU 1 (-2) 19 h dw (by omega) (by omega) (fu_big (by omega)) U
      have m1 := m.gr (G1.mo fun b j => BP.cz) U1.1.1
      refine ⟨-2, h1, h1, ls, tp, ?_, ?_, U1.1.1, ⟨⟨hw, dw1, U1⟩, t.bp G1 U.1.1⟩, m1⟩
      · show X_fewest 0 n h = _
        unfold X_fewest
        refine num_if ?_
        rw [if_pos hn]
        exact e1
      · show R_fewest 27 n h1 = _
        unfold R_fewest
        refine rnum_if ?_
        rw [if_pos hn]
        by_cases n2 : n = 2
        · exact ifT n2 rfl
        · refine ifF n2 ?_
          refine cB (s_RisPrime2 (n := n) (by omega)) ?_
          exact ifT (by
            rcases prS_01 n with p | p
            · exact p
            · exact absurd ⟨p, n2⟩ P) rfl
  · refine ⟨-1, h, h, ls, tp, ?_, ?_, U.1.1, ⟨⟨hw, dw, U⟩, t⟩, m⟩
    · show X_fewest 0 n h = _
      unfold X_fewest
      refine num_if ?_
      rw [if_neg hn]
    · show R_fewest 27 n h = _
      unfold R_fewest
      refine rnum_if ?_
      rw [if_neg hn]
/-! ### mend -/
theorem q_mend (hM : MRok) (i : Int) : sim (fun h => X_mend 0 i h) (fun h => R_mend 27 i h) := mk_sim fun ls tp ok => by
  have l60 := ok.1
  by_cases q : 0 ≤ i ∧ i < ls.length
  · obtain ⟨k, rfl⟩ := Int.eq_ofNat_of_zero_le q.1
    have hk : k < ls.length := by omega
    have okl := ok.2.1 k hk
    obtain ⟨n, s, p, qq, D, E, hl⟩ : ∃ n s p qq D E, gl ls k = ((n, s, p, qq), D, E) := ⟨_, _, _, _, _, _, rfl⟩
    rw [hl] at okl
    have hn : okN n := okl.1
    have hs : 0 ≤ s ∧ s ≤ 4 := ⟨okl.2.1, okl.2.2.1⟩
    have pre : ∀ h hw dw, FUL h hw dw ls → ∀ {r}, ((Finder_foundAlone 6 n s h).bind fun u9 => if u9.1 < 0 then some ((-2), u9.2) else (gd (hTy u9.2 (hCe h 2 k) = 4) 0).bind fun _ => (Line_copy (hCe h 2 k) u9.1 u9.2).bind fun h11 => (gd (hTy h11 0 = 9) (hCe h11 0 0)).bind fun u12 => (gd (hTy h11 u12 = 3) 0).bind fun _ => (Ledger_checkFrom u12 k h11).bind fun h14 => (gd (hTy h14 0 = 9) (hCe h14 0 0)).bind fun u15 => (gd (hTy h14 u15 = 3) (hCe h14 u15 1)).bind fun u16 => (gd (hTy h14 u16 = 21 ∧ 0 ≤ (k : Int) ∧ (k : Int) < hLn h14 u16) (hCe h14 u16 k)).bind fun u17 => some (u17, h14)) = r → X_mend 0 k h = r := by
      rintro h hw dw U r rfl
      have H := U.1.1
      have L := U.1.ln hk
      rw [hl] at L
      have c2 : hCe h (hCe h 2 k) 2 = n := L.2.1.1
      have c3 : hCe h (hCe h 2 k) 3 = s := L.2.1.2.1
      unfold X_mend
      refine gB H.t0 ?_
      rw [H.p0_0]
      refine gB H.t1 ?_
      refine has_if U.1 ?_
      rw [if_pos q]
      refine gB H.t0 ?_
      refine gB H.t1 ?_
      rw [H.p1_0]
      refine U.1.lnA hk ?_
      refine gB H.t0 ?_
      rw [H.p0_1]
      refine gB L.1.1 ?_
      refine gB L.1.1 ?_
      rw [c2, c3]
      exact gB H.t6 rfl
    have rpre : ∀ h, MS h ls tp → ∀ {r}, ((R_works 27 n s h).bind fun u6 => if u6.1 = 0 then some ((-2), u6.2) else (gd (hTy u6.2 27 = 10) 0).bind fun _ => (R_becomes 27 k 115 u6.2).bind fun h8 => (gd (hTy h8 27 = 10) 0).bind fun _ => (R_laysRight 27 h8).bind fun h10 => (gd (hTy h10 27 = 10) (hCe h10 27 20)).bind fun u11 => (gd (hTy h10 u11 = 21 ∧ 0 ≤ (k : Int) ∧ (k : Int) < hLn h10 u11) (hCe h10 u11 k)).bind fun u12 => some (u12, h10)) = r → R_mend 27 k h = r := by
      rintro h m r rfl
      have H := m.1
      have L := (m.2.1.2.2 k hk).1.1
      rw [hl] at L
      have c2 : hCe h 33 k = n := L.1
      have c3 : hCe h 34 k = s := L.2.1
      unfold R_mend
      refine gB H.t27 ?_
      refine rhas_if m ?_
      rw [if_pos q]
      refine gB H.t27 ?_
      rw [H.p27_8]
      refine gB ⟨H.t33, by omega, by rw [H.l33]; omega⟩ ?_
      refine gB H.t27 ?_
      rw [H.p27_9]
      refine gB ⟨H.t34, by omega, by rw [H.l34]; omega⟩ ?_
      rw [c2, c3]
      exact gB H.t27 rfl
    cases fd : fdS n s with
    | none =>
      refine ⟨-2, ls, tp, xC.bp fun h hw dw U => ?_, fun h m => ?_⟩
      · obtain ⟨h2, dw2, pp, U2, lt2, G2, c⟩ := s_foundAlone hM U hn hs
        rw [fd] at c
        exact ⟨h2, hw, dw2, pre h hw dw U (cB c (ifT (by show (-1 : Int) < 0; omega) rfl)), U2, G2⟩
      · obtain ⟨h1, e1, F1, -⟩ := s_works m.1 hn hs
        rw [fd] at e1
        exact ⟨h1, rpre h m (cB e1 (ifT rfl rfl)), m.vk F1 fun b j z => z, F1.mo fun b j => VK.mz⟩
    | some l =>
      have okn : okL l := (fd_ok hn hs fd).1
      refine ⟨faT (ls.set k l) k, ls.set k l, tp, xC.bp fun h hw dw U => ?_, fun h m => ?_⟩
      · obtain ⟨h2, dw2, pp, U2, lt2, G2, c⟩ := s_foundAlone hM U hn hs
        rw [fd] at c
        obtain ⟨e2, L2, c6⟩ := c
        have O2 := U2.1.2.1
        have p2 := U2.1.pr hk
        obtain ⟨h3, e3, F3, L3, t3⟩ := s_lineCopy (U2.1.ln hk).1 L2 (bk_apart (O2.2.2.2.1 k (by have := U2.1.2.2.1; omega)) (O2.2.2.2.2.2.1 0 lt2) (O2.2.2.2.2.2.2.2.2.2 k 0 (by have := U2.1.2.2.1; omega) lt2))
        obtain ⟨h4, e4, F4, U4⟩ := s_changed hM U2 hk okn F3 L3 (Or.inl (t3.trans c6))
        have H3 := U2.1.1.fr F3 fun b j => LK.mut (BA_of p2)
        have H4 := U4.1.1
        have sz : k < (ls.set k l).length := by rw [List.length_set]; exact hk
        refine ⟨h4, hw, dw2, pre h hw dw U (cB e2 ?_), U4, G2.tr ((F3.gr.mo fun b j z => ?_).tr (F4.gr.mo fun b j z => ?_))⟩
        · refine ifF (by show ¬ hCe h2 13 0 < 0; have := (O2.2.2.2.2.2.1 0 lt2).r; have : 52 ≤ hCe h2 13 0 := this.1; omega) ?_
          rw [← pp]
          refine gB (U2.1.ln hk).1.1 ?_
          refine cB e3 ?_
          refine gB H3.t0 ?_
          rw [H3.p0_0]
          refine gB H3.t1 ?_
          refine cB e4 ?_
          refine gB H4.t0 ?_
          rw [H4.p0_0]
          refine gB H4.t1 ?_
          rw [H4.p1_1]
          refine gB ⟨H4.t3, by omega, by rw [H4.l3]; omega⟩ ?_
          rw [(U4.2.1 k sz).1]
        · unfold LK SK at z; unfold BP; omega
        · unfold CK at z; unfold BP; omega
      · obtain ⟨h1, e1, F1, L1⟩ := s_works m.1 hn hs
        rw [fd] at e1
        have m1 := m.vk F1 fun b j z => z
        obtain ⟨h2, e2, F2, L2⟩ := s_becomes m1.1 (k := k) (k2 := 115) (by omega) (by omega) (by omega) (L1 l fd)
        have m2 : MS h2 (ls.set k l) tp := ⟨m1.1.fr F2 fun b j => MK.mut, m1.2.1.set hk F2 L2 okn, (F2.2 _ _ (by unfold MK; omega)).trans m1.2.2.1, m1.2.2.2.1, m1.2.2.2.2.1, fun j hj => (F2.2 _ _ (by unfold MK; omega)).trans (m1.2.2.2.2.2 j hj)⟩
        obtain ⟨h3, e3, F3, R3⟩ := s_laysRight m2.1 m2.2.1
        have m3 := m2.frQ F3 fun b j => WK.q
        have H3 := m3.1
        refine ⟨h3, rpre h m (cB e1 ?_), m3, ((F1.mo fun b j => VK.mz).tr (F2.mo fun b j => MK.mz)).tr (F3.mo fun b j => WK.mz)⟩
        refine ifF one_ne ?_
        refine gB m1.1.t27 ?_
        refine cB e2 ?_
        refine gB m2.1.t27 ?_
        refine cB e3 ?_
        refine gB H3.t27 ?_
        rw [H3.p27_20]
        refine gB ⟨H3.t45, by omega, by rw [H3.l45]; omega⟩ ?_
        rw [(R3 k (by rw [List.length_set]; exact hk)).2]
  · refine ⟨-1, ls, tp, xC.keep fun h hw dw U t => ?_, rC.keep fun h m => ?_⟩
    · have H := U.1.1
      show X_mend 0 i h = _
      unfold X_mend
      refine gB H.t0 ?_
      rw [H.p0_0]
      refine gB H.t1 ?_
      refine has_if U.1 ?_
      rw [if_neg q]
    · show R_mend 27 i h = _
      unfold R_mend
      refine gB m.1.t27 ?_
      refine rhas_if m ?_
      rw [if_neg q]
