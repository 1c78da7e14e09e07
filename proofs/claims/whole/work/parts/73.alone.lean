/-! a line found by itself: needs, fewest, mend -/
theorem TP.bp {h h' : AH} {tp : List Int} (t : TP h 14 1 15 tp) (G : Gr BP h h') (H : Sh h) : TP h' 14 1 15 tp := by
  have n := H.n52
  exact ⟨(G.2.1 _ _ (by omega) (by unfold BP; omega)).trans t.1, t.2.1, t.2.2.1, fun i hi => (G.2.1 _ _ (by omega) (by unfold BP; omega)).trans (t.2.2.2 i hi)⟩
theorem BP.cz {b j : Int} (z : BP b j) : CZ b j := by unfold BP at z; unfold CZ; omega
theorem xC.bp {X : AH → Option (Int × AH)} {ls ls' : List LN} {tp : List Int} {r : Int} (c : ∀ h hw dw, FUL h hw dw ls → ∃ h' hw' dw', X h = some (r, h') ∧ FUL h' hw' dw' ls' ∧ Gr BP h h') : xC X ls tp r ls' tp := fun h x => by
  obtain ⟨⟨hw, dw, U⟩, t⟩ := x
  obtain ⟨h', hw', dw', e, U', G⟩ := c h hw dw U
  exact ⟨h', e, ⟨⟨hw', dw', U'⟩, t.bp G U.1.1⟩, G.mo fun b j => BP.cz⟩
theorem draft_p {h : AH} {hw dw : Nat} {ls : List LN} (U : FUL h hw dw ls) {lv : Nat} (hl : lv ≤ dw) (l40 : lv < 40) {r : Int} {h' : AH} (e : Finder_draftAt 6 lv h = some (r, h')) : ∀ j, hCe h' 2 j = hCe h 2 j := by
  have H := U.1.1
  have O := U.1.2.1
  obtain ⟨o1, o2, o3, o4, o5, o6, o7, o8, o9, o10⟩ := id O
  by_cases q : lv < dw
  · have := (o6 lv q).r
    have e2 : Finder_draftAt 6 lv h = some (hCe h 13 lv, h) := by
      unfold Finder_draftAt
      refine ifF (by omega) ?_
      refine ifT (by omega) ?_
      refine gB H.t6 ?_
      rw [H.p6_3]
      refine gB ⟨H.t13, by omega, by rw [H.l13]; omega⟩ ?_
      refine ifF (by omega) ?_
      refine gB H.t6 ?_
      refine gB ⟨H.t13, by omega, by rw [H.l13]; omega⟩ ?_
      rfl
    rw [e2] at e
    injection e with e
    have : h = h' := congrArg Prod.snd e
    subst this
    exact fun j => rfl
  · have e3 : lv = dw := by omega
    subst e3
    have N0 : 0 ≤ hNx h := by rw [o3]; unfold blkA; omega
    obtain ⟨h1, e1, G1, n1, w1, B1⟩ := s_newLine (h := h) rfl N0
    have G1' : Gr (fun b j => b = 13 ∧ j = (lv : Int)) h (hSet h1 13 lv (hNx h)) := (G1.mo fun _ _ z => z.elim).tr (Fr.set ⟨rfl, rfl⟩).gr
    have n13 : 13 < hNx h := by rw [o3]; unfold blkA; omega
    have e2 : Finder_draftAt 6 lv h = some (hCe (hSet h1 13 lv (hNx h)) 13 lv, hSet h1 13 lv (hNx h)) := by
      unfold Finder_draftAt
      refine ifF (by omega) ?_
      refine ifT (by omega) ?_
      refine gB H.t6 ?_
      rw [H.p6_3]
      refine gB ⟨H.t13, by omega, by rw [H.l13]; omega⟩ ?_
      rw [o7 lv (Nat.le_refl _) l40]
      refine ifT (by omega) ?_
      refine gB H.t6 ?_
      refine gB trivial ?_
      refine gB N0 ?_
      refine cB e1 ?_
      have t13 : hTy h1 13 = 26 := ((G1.1 13 n13).1).trans H.t13
      have l13 : hLn h1 13 = 40 := ((G1.1 13 n13).2).trans H.l13
      have t6 : hTy h1 6 = 2 := ((G1.1 6 (by omega)).1).trans H.t6
      refine gB ⟨⟨t13, by omega, by rw [l13]; omega⟩, Or.inr B1.1⟩ ?_
      refine gB (by rw [tS]; exact t6) ?_
      rw [cN (by omega), G1.2.1 6 3 (by omega) (fun z => z), H.p6_3]
      refine gB ⟨by rw [tS]; exact t13, by omega, by rw [lS, l13]; omega⟩ ?_
      rfl
    rw [e2] at e
    injection e with e
    have : hSet h1 13 lv (hNx h) = h' := congrArg Prod.snd e
    subst this
    exact fun j => G1'.2.1 2 j (by omega) (by omega)
theorem s_laidAlone (hM : MRok) {h : AH} {hw dw : Nat} {ls : List LN} (U : FUL h hw dw ls) {n s : Int} (hn : okN n) (hs : 0 ≤ s ∧ s ≤ 4) : ∃ h' dw', (∀ j, hCe h' 2 j = hCe h 2 j) ∧ Finder_laidAlone 6 n s h = some (if lyOK n s = true then hCe h' 13 0 else -1, h') ∧ FUL h' hw dw' ls ∧ 0 < dw' ∧ Gr BP h h' ∧ 52 ≤ hCe h' 13 0 ∧ Blk h' (hCe h' 13 0) ∧ (lyOK n s = true → hCe h' (hCe h' 13 0) 6 = -1 ∧ LD h' (hCe h' 13 0) (if s = 0 then ((n, 0, 0, 0), [], []) else ((n, s, 0, 0), (lyS n s 0).1, (lyS n s 0).2))) := by
  have H := U.1.1
  obtain ⟨h1, dw1, e1, U1, lt1, d1, G1, K1⟩ := s_draftAt U (lv := 0) (Nat.zero_le _) (by omega)
  have H1 := U1.1.1
  have O1 := U1.1.2.1
  have ib := O1.2.2.2.2.2.1 0 lt1
  have ir := ib.r
  obtain ⟨Bk, bA, bn⟩ := O1.blk H1 ib
  obtain ⟨h2, e2, F2, B2, y2⟩ := s_lay hM H1 bA Bk hn hs
  have U2 := U1.frA lt1 F2
  have p2 : hCe h2 13 ((0 : Nat) : Int) = hCe h1 13 ((0 : Nat) : Int) := F2.2 _ _ (by unfold AK LK SK FK; omega)
  have G2 : Gr BP h1 h2 := F2.gr.mo fun b j z => by unfold AK LK SK FK at z; unfold BP; omega
  rw [← p2] at ir y2 B2 e2
  refine ⟨h2, dw1, fun j => (F2.2 _ _ (by unfold AK LK SK FK; omega)).trans (draft_p U (Nat.zero_le _) (by omega) e1 j), ?_, U2, lt1, G1.tr G2, ir.1, B2, y2⟩
  unfold Finder_laidAlone
  refine gB H.t6 ?_
  refine cB e1 ?_
  refine ifF (by show ¬ hCe h1 13 ((0 : Nat) : Int) < 0; omega) ?_
  refine gB H1.t6 ?_
  rw [p2] at e2
  refine cB e2 ?_
  cases ly : lyOK n s with
  | false => exact ifT rfl rfl
  | true => exact ifF one_ne (by show some (hCe h1 13 ((0 : Nat) : Int), h2) = some (hCe h2 13 ((0 : Nat) : Int), h2); rw [p2])
theorem s_foundAlone (hM : MRok) {h : AH} {hw dw : Nat} {ls : List LN} (U : FUL h hw dw ls) {n s : Int} (hn : okN n) (hs : 0 ≤ s ∧ s ≤ 4) : ∃ h' dw', (∀ j, hCe h' 2 j = hCe h 2 j) ∧ FUL h' hw dw' ls ∧ 0 < dw' ∧ Gr BP h h' ∧ (match fdS n s with
    | none => Finder_foundAlone 6 n s h = some (-1, h')
    | some l => Finder_foundAlone 6 n s h = some (hCe h' 13 0, h') ∧ LD h' (hCe h' 13 0) l ∧ hCe h' (hCe h' 13 0) 6 = -1) := by
  have H := U.1.1
  obtain ⟨h2, dw1, pp, e2, U2, lt1, G1, ir, B2, y2⟩ := s_laidAlone hM U hn hs
  have H2 := U2.1.1
  have st : ∀ {r}, (if (if lyOK n s = true then hCe h2 13 0 else -1) < 0 then some ((-1 : Int), h2) else (Finder_seek (if lyOK n s = true then hCe h2 13 0 else -1) h2).bind fun u2 => if u2.1 = 0 then some ((-1), u2.2) else some ((if lyOK n s = true then hCe h2 13 0 else -1), u2.2)) = r → Finder_foundAlone 6 n s h = r := by
    rintro r rfl
    unfold Finder_foundAlone
    refine gB H.t6 ?_
    exact cB e2 rfl
  cases ly : lyOK n s with
  | false =>
    have fd : fdS n s = none := by
      unfold lyOK at ly
      unfold fdS
      by_cases p : prS n = 1
      · rw [decide_eq_true p, Bool.true_and] at ly
        rw [if_pos p]
        by_cases s0 : s = 0
        · rw [if_pos s0] at ly ⊢
          rw [if_neg (of_decide_eq_false ly)]
        · rw [if_neg s0] at ly ⊢
          rw [if_pos (Classical.byContradiction fun z => of_decide_eq_false ly z)]
      · rw [if_neg p]
    rw [fd]
    refine ⟨h2, dw1, pp, U2, lt1, G1, st ?_⟩
    rw [ly, if_neg (show ¬ false = true by decide)]
    exact ifT (by omega) rfl
  | true =>
    obtain ⟨c6, L2⟩ := y2 ly
    have P : prS n = 1 ∧ (if s = 0 then decide (n < 100) else decide (n ≠ 2)) = true := by
      unfold lyOK at ly
      rw [Bool.and_eq_true] at ly
      exact ⟨of_decide_eq_true ly.1, ly.2⟩
    have ip := prS_isP P.1
    have seek : ∃ h3, Finder_seek (hCe h2 13 0) h2 = some (ob (fdS n s), h3) ∧ Fr (LQ (hCe h2 13 0)) h2 h3 ∧ ∀ l, fdS n s = some l → LD h3 (hCe h2 13 0) l := by
      by_cases s0 : s = 0
      · have h100 : n < 100 := by
          have := P.2
          rw [if_pos s0] at this
          exact of_decide_eq_true this
        rw [if_pos s0] at L2
        have fd : fdS n s = some ((n, 0, 0, 0), [], []) := by
          unfold fdS
          rw [if_pos P.1, if_pos s0, if_pos h100]
        refine ⟨h2, ?_, Fr.rf, fun l hl => by rw [fd] at hl; cases hl; exact L2⟩
        rw [fd]
        unfold Finder_seek
        refine gB L2.1.1 ?_
        have c3 : hCe h2 (hCe h2 13 0) 3 = 0 := L2.2.1.2.1
        rw [c3]
        exact ifF (by omega) (ifF (by omega) (ifF (by omega) (ifF (by omega) rfl)))
      · have two : n ≠ 2 := by
          have := P.2
          rw [if_neg s0] at this
          exact of_decide_eq_true this
        rw [if_neg s0] at L2
        have nb := isP_nb hn ip two
        obtain ⟨D, Uu, lyf, mD, mU, -⟩ := ly_form (n := n) (s := s) ⟨by omega, hs.2⟩
        obtain ⟨h3, e3, F3, B3, L3⟩ := s_seek hn ⟨by omega, hs.2⟩ L2 (fun r hr => by
          rw [lyf] at hr
          obtain ⟨x, hx, rfl⟩ := List.mem_map.mp hr
          have := (nb_lo1 nb (mD x hx)).1.1
          show 1 ≤ x.1
          omega) (fun r hr => by
          rw [lyf] at hr
          obtain ⟨x, hx, rfl⟩ := List.mem_map.mp hr
          have := (nb_hi1 nb (mU x hx)).1.1
          show 1 ≤ x.1
          omega)
        have fd : fdS n s = seS n s (lyS n s 0).1 (lyS n s 0).2 := by
          unfold fdS
          rw [if_pos P.1, if_neg s0, if_neg two]
        rw [fd]
        exact ⟨h3, e3, F3, L3⟩
    obtain ⟨h3, e3, F3, L3⟩ := seek
    have F3' : Fr (AK (hCe h2 13 ((0 : Nat) : Int))) h2 h3 := F3.mo fun b j z => Or.inl z.lk
    have U3 := U2.frA lt1 F3'
    have p3 : hCe h3 13 0 = hCe h2 13 0 := F3.2 _ _ (by unfold LQ PK SK; omega)
    have G3 : Gr BP h2 h3 := F3.gr.mo fun b j z => by unfold LQ PK SK at z; unfold BP; omega
    refine ⟨h3, dw1, fun j => (F3.2 _ _ (by unfold LQ PK SK; omega)).trans (pp j), U3, lt1, G1.tr G3, ?_⟩
    rw [ly, if_pos rfl] at st
    cases fd : fdS n s with
    | none =>
      rw [fd] at e3
      exact st (ifF (by omega) (cB e3 (ifT rfl rfl)))
    | some l =>
      rw [fd] at e3
      refine ⟨st (ifF (by omega) (cB e3 (ifF one_ne (by rw [p3])))), by rw [p3]; exact L3 l fd, ?_⟩
      rw [p3, F3.2 _ _ (by unfold LQ PK SK; omega)]
      exact c6
/-! ### needs, fewest -/
theorem MS.vk {P : Int → Int → Prop} {h h' : AH} {ls : List LN} {tp : List Int} (m : MS h ls tp) (F : Fr P h h') (q : ∀ b j, P b j → VK b j) : MS h' ls tp := by
  have z : ∀ b j, P b j → b ≠ 48 ∧ (b = 27 → j ≠ 24) := fun b j y => by have := (q b j y).far; omega
  exact ⟨m.1.fr F fun b j y => (q b j y).mut, m.2.1.vk F fun b j y => Or.inl (q b j y), (F.2 _ _ fun y => (z _ _ y).2 rfl rfl).trans m.2.2.1, m.2.2.2.1, m.2.2.2.2.1, fun i hi => (F.2 _ _ fun y => (z _ _ y).1 rfl).trans (m.2.2.2.2.2 i hi)⟩
theorem VK.mz {b j : Int} (z : VK b j) : MZ b j := ⟨z.mut, by have := z.far; omega⟩
/-- how many rows a line of sort s for n has -/
def nDn (n s : Int) : Nat := (lyS n s 0).1.length
def nUp (n s : Int) : Nat := (lyS n s 0).2.length
theorem n_len {n s : Int} (hs : 1 ≤ s ∧ s ≤ 4) (b : Int) : (lyS n s b).1.length = nDn n s ∧ (lyS n s b).2.length = nUp n s := by
  obtain ⟨D, U, ly, -⟩ := ly_form (n := n) (s := s) hs
  unfold nDn nUp
  rw [ly, ly]
  exact ⟨by rw [List.length_map, List.length_map], rfl⟩
theorem r_needs {h : AH} {ls : List LN} {tp : List Int} (m : MS h ls tp) {n s : Int} (nb : nbOK n) (pn : prS n = 1) (hs : 1 ≤ s ∧ s ≤ 4) : ∃ h', R_needs 27 n s h = some (10 * (nDn n s : Int) + nUp n s, h') ∧ Fr VK h h' ∧ MS h' ls tp ∧ nDn n s ≤ 9 ∧ nUp n s ≤ 9 := by
  have H := m.1
  have n1 := nb.1
  have n2 := nb.2.1
  obtain ⟨h1, e1, F1, L1⟩ := s_begins H (k := 115) (by omega) (n := n) (s := s)
  rw [show ((115 : Nat) : Int) = 115 from rfl] at e1
  have H1 := H.fr F1 fun b j => MK.mut
  obtain ⟨h2, e2, F2, L2⟩ := s_laysRows nb hs H1 L1
  have H2 := H1.fr F2 fun b j => YK.mut
  have F : Fr VK h h2 := (F1.mo fun b j z => Or.inl z).tr (F2.mo fun b j z => z.elim Or.inl fun y => Or.inr (Or.inr y))
  have nl := n_len (n := n) hs 2
  have c1 : hCe h2 37 115 = (nDn n s : Int) := by rw [← nl.1]; exact L2.2.1.1
  have c2 : hCe h2 38 115 = (nUp n s : Int) := by rw [← nl.2]; exact L2.2.2.1
  have b1 : nDn n s ≤ 9 := by rw [← nl.1]; exact L2.2.1.2.1
  have b2 : nUp n s ≤ 9 := by rw [← nl.2]; exact L2.2.2.2.1
  refine ⟨h2, ?_, F, m.vk F fun b j z => z, b1, b2⟩
  unfold R_needs
  refine rin_if ?_
  rw [if_pos hs]
  refine rnum_if ?_
  rw [if_pos (by omega)]
  refine ifF (by omega) ?_
  refine cB (s_RisPrime2 (n := n) (by omega)) ?_
  rw [pn]
  refine ifF one_ne ?_
  refine gB H.t27 ?_
  refine cB e1 ?_
  refine gB H1.t27 ?_
  refine cB e2 ?_
  refine gB H2.t27 ?_
  rw [H2.p27_12]
  refine gB ⟨H2.t37, by omega, by rw [H2.l37]; omega⟩ ?_
  refine gB H2.t27 ?_
  rw [H2.p27_13]
  refine gB ⟨H2.t38, by omega, by rw [H2.l38]; omega⟩ ?_
  rw [c1, c2, w32_e (z := 10 * (nDn n s : Int)) (by omega), w32_e (by omega)]
theorem q_needs (hM : MRok) (n s : Int) : sim (fun h => X_needs 0 n s h) (fun h => R_needs 27 n s h) := mk_sim fun ls tp ok => by
  by_cases hn : 2 ≤ n ∧ n ≤ 1000000000
  · by_cases hs : 1 ≤ s ∧ s ≤ 4
    · have pre : ∀ h hw dw, FUL h hw dw ls → ∀ {r}, ((Finder_laidAlone 6 n s h).bind fun u3 => if u3.1 < 0 then some ((-2), u3.2) else (gd (hTy u3.2 u3.1 = 4) (hCe u3.2 u3.1 0)).bind fun u4 => (gd (hTy u3.2 u4 = 6) (hCe u3.2 u4 1)).bind fun u5 => (gd (hTy u3.2 u3.1 = 4) (hCe u3.2 u3.1 1)).bind fun u6 => (gd (hTy u3.2 u6 = 6) (hCe u3.2 u6 1)).bind fun u7 => some (w32 ((w32 (10 * u5)) + u7), u3.2)) = r → X_needs 0 n s h = r := by
        rintro h hw dw U r rfl
        have H := U.1.1
        unfold X_needs
        refine num_if ?_
        rw [if_pos hn]
        refine ifF (by omega) (ifF (by omega) ?_)
        refine gB H.t0 ?_
        rw [H.p0_1]
        exact gB H.t6 rfl
      cases ly : lyOK n s with
      | true =>
        have P : prS n = 1 ∧ n ≠ 2 := by
          unfold lyOK at ly
          rw [Bool.and_eq_true, if_neg (show ¬ s = 0 by omega)] at ly
          exact ⟨of_decide_eq_true ly.1, of_decide_eq_true ly.2⟩
        have nb := isP_nb hn (prS_isP P.1) P.2
        refine ⟨10 * (nDn n s : Int) + nUp n s, ls, tp, xC.bp fun h hw dw U => ?_, fun h m => ?_⟩
        · obtain ⟨h2, dw1, pp, e2, U2, lt1, G1, ir, B2, y2⟩ := s_laidAlone hM U hn (s := s) (by omega)
          obtain ⟨c6, L2⟩ := y2 ly
          rw [if_neg (show ¬ s = 0 by omega)] at L2
          rw [if_pos ly] at e2
          have l1 : (lyS n s 0).1.length ≤ 9 := L2.2.2.1.2.2.1
          have l2 : (lyS n s 0).2.length ≤ 9 := L2.2.2.2.2.2.1
          refine ⟨h2, hw, dw1, pre h hw dw U (cB e2 ?_), U2, G1⟩
          refine ifF (by show ¬ hCe h2 13 0 < 0; omega) ?_
          refine gB B2.1 ?_
          rw [B2.2.2.2.2.2.2.2.1]
          refine gB B2.2.1 ?_
          refine gB B2.1 ?_
          rw [B2.2.2.2.2.2.2.2.2.1]
          refine gB B2.2.2.2.1 ?_
          rw [L2.2.2.1.2.1, L2.2.2.2.2.1]
          show some (w32 (w32 (10 * ((lyS n s 0).1.length : Int)) + ((lyS n s 0).2.length : Int)), h2) = some (10 * ((lyS n s 0).1.length : Int) + ((lyS n s 0).2.length : Int), h2)
          rw [w32_e (z := 10 * ((lyS n s 0).1.length : Int)) (by omega), w32_e (by omega)]
        · obtain ⟨h', e, F, m', -⟩ := r_needs m nb P.1 hs
          exact ⟨h', e, m', F.mo fun b j => VK.mz⟩
      | false =>
        refine ⟨-2, ls, tp, xC.bp fun h hw dw U => ?_, rC.keep fun h m => ?_⟩
        · obtain ⟨h2, dw1, pp, e2, U2, lt1, G1, -⟩ := s_laidAlone hM U hn (s := s) (by omega)
          rw [ly, if_neg (show ¬ false = true by decide)] at e2
          exact ⟨h2, hw, dw1, pre h hw dw U (cB e2 (ifT (by show (-1 : Int) < 0; omega) rfl)), U2, G1⟩
        · show R_needs 27 n s h = _
          unfold R_needs
          refine rin_if ?_
          rw [if_pos hs]
          refine rnum_if ?_
          rw [if_pos hn]
          by_cases n2 : n = 2
          · exact ifT n2 rfl
          · refine ifF n2 ?_
            refine cB (s_RisPrime2 (n := n) (by omega)) ?_
            have : prS n = 0 := by
              rcases prS_01 n with p | p
              · exact p
              · unfold lyOK at ly
                rw [decide_eq_true p, if_neg (show ¬ s = 0 by omega), decide_eq_true n2] at ly
                cases ly
            exact ifT this rfl
    · refine ⟨-1, ls, tp, xC.keep fun h hw dw U t => ?_, rC.keep fun h m => ?_⟩
      · show X_needs 0 n s h = _
        unfold X_needs
        refine num_if ?_
        rw [if_pos hn]
        by_cases s1 : s < 1
        · exact ifT s1 rfl
        · exact ifF s1 (ifT (by omega) rfl)
      · show R_needs 27 n s h = _
        unfold R_needs
        refine rin_if ?_
        rw [if_neg hs]
  · refine ⟨-1, ls, tp, xC.keep fun h hw dw U t => ?_, rC.keep fun h m => ?_⟩
    · show X_needs 0 n s h = _
      unfold X_needs
      refine num_if ?_
      rw [if_neg hn]
    · show R_needs 27 n s h = _
      unfold R_needs
      refine rin_if ?_
      by_cases hs : 1 ≤ s ∧ s ≤ 4
      · rw [if_pos hs]
        refine rnum_if ?_
        rw [if_neg hn]
      · rw [if_neg hs]
