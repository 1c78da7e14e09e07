/-! the class brings lines -/
theorem LD.kp {P : Int → Int → Prop} {h h' : AH} {a : Int} {l : LN} (L : LD h a l) (G : Gr P h h') (an : a + 4 < hNx h) (k : ∀ b i, a ≤ b → b ≤ a + 4 → hCe h' b i = hCe h b i) : LD h' a l := by
  have G2 : Gr (fun b _ => b < a ∨ a + 4 < b) h h' := ⟨G.1, fun b j _ z => k b j (by omega) (by omega), G.2.2⟩
  exact L.gr G2 an fun b j x y _ z => by omega
theorem ld_len {h : AH} {a : Int} {l : LN} (L : LD h a l) : (rows l).length ≤ 18 := by
  have h1 := L.2.2.1.2.2.1
  have h2 := L.2.2.2.2.2.1
  unfold rows
  rw [List.length_append]
  omega
theorem gt_qs {l : LN} {j : Nat} {q : Int} {qs : List Int} (e : ((rows l).map fun r => r.1).drop j = q :: qs) : j < (rows l).length ∧ (gt (rows l) j).1 = q ∧ ((rows l).map fun r => r.1).drop (j + 1) = qs := by
  have lt : j < (rows l).length := by
    rcases Nat.lt_or_ge j (rows l).length with z | z
    · exact z
    · rw [List.drop_eq_nil_of_le (by rw [List.length_map]; exact z)] at e; cases e
  have h2 := List.drop_eq_getElem_cons (l := (rows l).map fun r => r.1) (i := j) (by rw [List.length_map]; exact lt)
  rw [h2] at e
  have h3 := List.cons.inj e
  refine ⟨lt, ?_, h3.2⟩
  rw [List.getElem_map] at h3
  unfold gt
  rw [List.getD_eq_getElem?_getD, List.getElem?_eq_getElem lt]
  exact h3.1
/-- what a call of itself gives -/
def slfOK (k lv : Nat) (slf : Int → Int → Int → Int → AH → Option (Int × AH)) : Prop := ∀ (h : AH) (hw dw : Nat) (ls : List LN) (q s : Int), FUL h hw dw ls → lv ≤ dw → okN q → (0 ≤ s ∧ s ≤ 4) → q ≤ 2 ^ k → ∃ h' hw' dw', slf 6 q s lv h = some ((brC (k + 1) ls q s).1, h') ∧ FUL h' hw' dw' (brC (k + 1) ls q s).2 ∧ dw ≤ dw' ∧ Gr BP h h' ∧ kpD h h' lv
theorem ba_loop {k lv : Nat} {slf : Int → Int → Int → Int → AH → Option (Int × AH)} (hS : slfOK k (lv + 1) slf) (lv9 : lv < 39) {n s : Int} {l : LN} (ok : fdOK n s l) : ∀ (qs : List Int) (f j : Nat) (h : AH) (hw dw : Nat) (ls : List LN), ((rows l).map fun r => r.1).drop j = qs → (∀ q ∈ qs, CQ k q) → qs.length < f → j ≤ (rows l).length → lv < dw → FUL h hw dw ls → LD h (hCe h 13 lv) l → hCe h (hCe h 13 lv) 6 = -1 → (∀ q ∈ ((rows l).map fun r => r.1).take j, av ls q) → ∃ h' hw' dw', Finder_bringAt_40 slf f 6 lv (hCe h 13 lv) j h = some ((if (goB (brC (k + 1)) qs ls).1 < 0 then goB (brC (k + 1)) qs ls else if 60 ≤ (goB (brC (k + 1)) qs ls).2.length then (-3, (goB (brC (k + 1)) qs ls).2) else (((goB (brC (k + 1)) qs ls).2.length : Int), (goB (brC (k + 1)) qs ls).2 ++ [l])).1, h') ∧ FUL h' hw' dw' (if (goB (brC (k + 1)) qs ls).1 < 0 then goB (brC (k + 1)) qs ls else if 60 ≤ (goB (brC (k + 1)) qs ls).2.length then (-3, (goB (brC (k + 1)) qs ls).2) else (((goB (brC (k + 1)) qs ls).2.length : Int), (goB (brC (k + 1)) qs ls).2 ++ [l])).2 ∧ dw ≤ dw' ∧ Gr BP h h' ∧ kpD h h' lv := by
  intro qs
  induction qs with
  | nil =>
    intro f j h hw dw ls e cq hf hj hlv U L c6 avl
    obtain ⟨f, rfl, -⟩ := fu_pos hf
    have H := U.1.1
    have rl := ld_len L
    have jl : j = (rows l).length := by
      have := congrArg List.length e
      rw [List.length_drop, List.length_map, List.length_nil] at this
      omega
    have g0 : goB (brC (k + 1)) [] ls = (0, ls) := rfl
    rw [g0, if_neg (by show ¬ (0 : Int) < 0; omega)]
    have all : ∀ q ∈ qsS n s, av ls q := fun q hq => avl q (by
      rw [List.take_of_length_le (by rw [List.length_map]; omega)]
      rw [ok.2.2.2.1]; exact hq)
    have start : ∀ {r}, ((Ledger_appendRight 1 (hCe h 13 lv) h).bind fun u6 => some (u6.1, u6.2)) = r → Finder_bringAt_40 slf (f + 1) 6 lv (hCe h 13 lv) j h = r := by
      rintro r rfl
      conv => lhs; unfold Finder_bringAt_40
      refine gB L.1.t ?_
      refine cB (s_rowCount L) ?_
      refine ifF (by unfold rows at jl; omega) ?_
      refine gB H.t6 ?_
      rw [H.p6_0]
      exact gB H.t1 rfl
    by_cases full : 60 ≤ ls.length
    · rw [if_pos full]
      refine ⟨h, hw, dw, start (cB (v := (-3, h)) ?_ rfl), U, Nat.le_refl _, Gr.rf, kpD.rf⟩
      unfold Ledger_appendRight
      refine gB H.t1 ?_
      refine cB (v := (-3, h)) ?_ ?_
      · unfold Ledger_append
        refine gB H.t1 ?_
        rw [U.1.sz]
        exact ifF (by omega) rfl
      · exact ifT (by show (-3 : Int) < 0; omega) rfl
    · rw [if_neg full]
      have rt := fd_right ok all
      obtain ⟨h', hw', e', U', G', K'⟩ := s_appendRight U (by omega) hlv L ok.1 (Or.inl c6) rt
      exact ⟨h', hw', dw, start (cB e' rfl), U', Nat.le_refl _, G', K'.le (by omega)⟩
  | cons q qs ih =>
    intro f j h hw dw ls e cq hf hj hlv U L c6 avl
    obtain ⟨f, rfl, hf2⟩ := fu_pos hf
    have H := U.1.1
    have O := U.1.2.1
    have rl := ld_len L
    obtain ⟨lt, gq, e2⟩ := gt_qs e
    obtain ⟨C, S, m, B⟩ := id U
    have m63 := C.m63 (k := 0) B.2.1
    have ib := O.2.2.2.2.2.1 lv hlv
    have an := (O.blk H ib).2.2
    have lf : Ledger_leastFor 1 q h = some (ahS ls (rtS ls) ls.length q) := by
      rw [s_leastFor C m63 B.1]
      congr 1
      exact ahS_g fun i hi => ⟨B.2.2 i hi, rfl⟩
    have tk : ((rows l).map fun r => r.1).take (j + 1) = ((rows l).map fun r => r.1).take j ++ [q] := by
      have lt2 : j < ((rows l).map fun r => r.1).length := by rw [List.length_map]; exact lt
      rw [List.take_succ, List.getElem?_eq_getElem lt2]
      have := List.drop_eq_getElem_cons lt2
      rw [e] at this
      rw [← (List.cons.inj this).1]
      rfl
    have start : ∀ {r}, (if ahS ls (rtS ls) ls.length q < 0 then (if q < 100 then Finder_bringAt_86 slf (fun a0 a1 a2 a3 h0 => Finder_bringAt_40 slf f a0 a1 a2 a3 h0) 6 lv (hCe h 13 lv) j 0 q 6 h else Finder_bringAt_86 slf (fun a0 a1 a2 a3 h0 => Finder_bringAt_40 slf f a0 a1 a2 a3 h0) 6 lv (hCe h 13 lv) j 1 q 6 h) else Finder_bringAt_40 slf f 6 lv (hCe h 13 lv) ((j + 1 : Nat) : Int) h) = r → Finder_bringAt_40 slf (f + 1) 6 lv (hCe h 13 lv) j h = r := by
      rintro r rfl
      conv => lhs; unfold Finder_bringAt_40
      refine gB L.1.t ?_
      refine cB (s_rowCount L) ?_
      refine ifT (by unfold rows at lt; omega) ?_
      refine gB L.1.t ?_
      refine cB (s_divisor L lt) ?_
      refine gB H.t6 ?_
      rw [H.p6_0]
      refine gB H.t1 ?_
      have gq' : (gt (l.2.1 ++ l.2.2) j).1 = q := gq
      rw [gq']
      refine cB lf ?_
      rw [w32_e (by omega)]
      rfl
    unfold goB
    by_cases a : 0 ≤ ahS ls (rtS ls) ls.length q
    · rw [if_pos a]
      obtain ⟨h', hw', dw', e', r'⟩ := ih f (j + 1) h hw dw ls e2 (fun x hx => cq x (List.mem_cons_of_mem _ hx)) (by rw [List.length_cons] at hf; omega) (by omega) hlv U L c6 (fun x hx => by
        rw [tk] at hx
        rcases List.mem_append.mp hx with hx | hx
        · exact avl x hx
        · rw [List.mem_singleton] at hx
          subst hx
          exact a)
      exact ⟨h', hw', dw', start (ifF (by omega) e'), r'⟩
    · rw [if_neg a]
      have c := cq q List.mem_cons_self
      obtain ⟨h1, hw1, dw1, e1, U1, d1, G1, K1⟩ := hS h hw dw ls q (sortQ q) U (by omega) c.2.1 (sq_ok q) c.2.2
      obtain ⟨suf, ex, gx⟩ := brC_ok k ls q (sortQ q) c.2.1 (sq_ok q) c.2.2
      have st2 : ∀ {r}, (if (brC (k + 1) ls q (sortQ q)).1 < 0 then some ((brC (k + 1) ls q (sortQ q)).1, h1) else Finder_bringAt_40 slf f 6 lv (hCe h 13 lv) ((j + 1 : Nat) : Int) h1) = r → Finder_bringAt_40 slf (f + 1) 6 lv (hCe h 13 lv) j h = r := by
        rintro r rfl
        have go : ∀ sq, sq = sortQ q → Finder_bringAt_86 slf (fun a0 a1 a2 a3 h0 => Finder_bringAt_40 slf f a0 a1 a2 a3 h0) 6 lv (hCe h 13 lv) j sq q 6 h = if (brC (k + 1) ls q (sortQ q)).1 < 0 then some ((brC (k + 1) ls q (sortQ q)).1, h1) else Finder_bringAt_40 slf f 6 lv (hCe h 13 lv) ((j + 1 : Nat) : Int) h1 := by
          rintro sq rfl
          unfold Finder_bringAt_86
          refine gB H.t6 ?_
          rw [w32_e (z := (lv : Int) + 1) (by omega), w32_e (z := (j : Int) + 1) (by omega)]
          exact cB e1 rfl
        refine start (ifT (by omega) ?_)
        by_cases z : q < 100
        · exact ifT z (go 0 (by unfold sortQ; rw [if_pos z]))
        · exact ifF z (go 1 (by unfold sortQ; rw [if_neg z]))
      by_cases z : (brC (k + 1) ls q (sortQ q)).1 < 0
      · rw [if_pos z, if_pos z]
        exact ⟨h1, hw1, dw1, st2 (ifT z rfl), U1, d1, G1, K1.le (by omega)⟩
      · rw [if_neg z]
        have k1 := K1 lv (by omega)
        have L1 : LD h1 (hCe h 13 lv) l := L.kp G1 an k1.2
        obtain ⟨h', hw', dw', e', U', d', G', K'⟩ := ih f (j + 1) h1 hw1 dw1 (brC (k + 1) ls q (sortQ q)).2 e2 (fun x hx => cq x (List.mem_cons_of_mem _ hx)) (by rw [List.length_cons] at hf; omega) (by omega) (by omega) U1 (by rw [k1.1]; exact L1) (by rw [k1.1, k1.2 _ _ (by omega) (by omega)]; exact c6) (fun x hx => by
          rw [tk] at hx
          rcases List.mem_append.mp hx with hx | hx
          · rw [ex]; exact av_ext (avl x hx)
          · rw [List.mem_singleton] at hx
            subst hx
            exact gx (by omega))
        rw [k1.1] at e'
        exact ⟨h', hw', dw', st2 (ifF z e'), U', by omega, G1.tr G', (K1.le (by omega)).tr K'⟩
theorem Own.frA {h h' : AH} {hw dw : Nat} (O : Own h hw dw) {a : Int} (ha : BA a) (F : Fr (AK a) h h') : Own h' hw dw := by
  have := ha.ge
  exact O.fr F (fun j z => by unfold AK LK SK FK at z; omega) (fun j z => by unfold AK LK SK FK at z; omega)
theorem FUL.frA {h h' : AH} {hw dw : Nat} {ls : List LN} (U : FUL h hw dw ls) {lv : Nat} (hlv : lv < dw) (F : Fr (AK (hCe h 13 lv)) h h') : FUL h' hw dw ls := by
  have O := U.1.2.1
  have ib := O.2.2.2.2.2.1 lv hlv
  have bA := (O.blk U.1.1 ib).2.1
  have ir := ib.r
  refine U.gr F.gr (U.1.1.fr F fun b j => AK.mut bA) (O.frA bA F) U.1.2.2.1 (fun b j x y _ z => by unfold AK LK SK FK at z; omega) fun i hi b j x y z => ?_
  have jb := O.2.2.2.1 i (by have := U.1.2.2.1; omega)
  have jr := jb.r
  have := bk_apart jb ib (O.2.2.2.2.2.2.2.2.2 i lv (by have := U.1.2.2.1; omega) hlv)
  unfold AK LK SK FK at z
  omega
theorem kpD.frA {h h' : AH} {hw dw : Nat} (H : Sh h) (O : Own h hw dw) {lv : Nat} (hlv : lv < dw) (F : Fr (AK (hCe h 13 lv)) h h') : kpD h h' lv := fun j hj => by
  have ib := O.2.2.2.2.2.1 lv hlv
  have jb := O.2.2.2.2.2.1 j (by omega)
  have ir := ib.r
  have jr := jb.r
  have ap := bk_apart jb ib fun z => by
    have := O.2.2.2.2.2.2.2.2.1 j lv (by omega) hlv z
    omega
  exact ⟨F.2 _ _ (by unfold AK LK SK FK; omega), fun b i x y => F.2 _ _ (by unfold AK LK SK FK; omega)⟩
theorem qs_len {n s : Int} (hn : okN n) (ip : isP n) (hs : 0 ≤ s ∧ s ≤ 4) {l : LN} {h : AH} {a : Int} (ok : fdOK n s l) (L : LD h a l) : (qsS n s).length ≤ 18 := by
  rw [← ok.2.2.2.1, List.length_map]
  exact ld_len L
theorem s_bringAt (hM : MRok) : ∀ (k f lv : Nat), k + 1 ≤ f → lv + k ≤ 38 → slfOK k lv (Finder_bringAt f)
  | 0, f, lv, hf, hl => fun h hw dw ls q s U hd hn hs hk => by have := hn.1; rw [Int.pow_zero] at hk; omega
  | k + 1, f, lv, hf, hl => fun h hw dw ls n s U hd hn hs hk => by
    obtain ⟨f, rfl⟩ : ∃ g, f = g + 1 := ⟨f - 1, by omega⟩
    have hS := s_bringAt hM k f (lv + 1) (by omega) (by omega)
    have H := U.1.1
    obtain ⟨h1, dw1, e1, U1, lt1, d1, G1, K1⟩ := s_draftAt U hd (by omega)
    have H1 := U1.1.1
    have O1 := U1.1.2.1
    have ib := O1.2.2.2.2.2.1 lv lt1
    have ir := ib.r
    obtain ⟨Bk, bA, bn⟩ := O1.blk H1 ib
    obtain ⟨h2, e2, F2, B2, y2⟩ := s_lay hM H1 bA Bk hn hs
    have U2 := U1.frA lt1 F2
    have kp2 := kpD.frA H1 O1 lt1 F2
    have p2 : hCe h2 13 lv = hCe h1 13 lv := F2.2 _ _ (by unfold AK LK SK FK; omega)
    have G2 : Gr BP h1 h2 := F2.gr.mo fun b j z => by unfold AK LK SK FK at z; unfold BP; omega
    have st : ∀ {r}, (if b2i (lyOK n s) = 0 then some ((-2 : Int), h2) else (Finder_seek (hCe h1 13 lv) h2).bind fun u3 =>
        if u3.1 = 0 then
          some ((-2), u3.2)
        else
          Finder_bringAt_40 (Finder_bringAt f) FU 6 lv (hCe h1 13 lv) 0 u3.2) = r → Finder_bringAt (f + 1) 6 n s lv h = r := by
      rintro r rfl
      show Finder_bringAt_B (Finder_bringAt f) 6 n s lv h = _
      unfold Finder_bringAt_B
      refine gB H.t6 ?_
      refine cB e1 ?_
      refine ifF (by show ¬ hCe h1 13 lv < 0; omega) ?_
      refine gB H1.t6 ?_
      exact cB e2 rfl
    rw [brC_u]
    cases ly : lyOK n s with
    | false =>
      have fd : fdS n s = none := by
        unfold lyOK at ly
        unfold fdS
        by_cases p : prS n = 1
        · rw [decide_eq_true p, Bool.true_and] at ly
          rw [if_pos p]
          by_cases s0 : s = 0
          · rw [if_pos s0] at ly ⊢
            rw [if_neg (of_decide_eq_false ly)]
          · rw [if_neg s0] at ly ⊢
            rw [if_pos (Classical.byContradiction fun z => of_decide_eq_false ly z)]
        · rw [if_neg p]
      rw [fd]
      exact ⟨h2, hw, dw1, st (ifT (by rw [ly]; rfl) rfl), U2, d1, G1.tr G2, K1.tr kp2⟩
    | true =>
      obtain ⟨c6, L2⟩ := y2 ly
      have lyne : ¬ b2i (lyOK n s) = 0 := by rw [ly]; decide
      have P : prS n = 1 ∧ (if s = 0 then decide (n < 100) else decide (n ≠ 2)) = true := by
        unfold lyOK at ly
        rw [Bool.and_eq_true] at ly
        exact ⟨of_decide_eq_true ly.1, ly.2⟩
      have ip := prS_isP P.1
      -- the seek
      have seek : ∃ h3, Finder_seek (hCe h1 13 lv) h2 = some (ob (fdS n s), h3) ∧ Fr (LQ (hCe h1 13 lv)) h2 h3 ∧ ∀ l, fdS n s = some l → LD h3 (hCe h1 13 lv) l := by
        by_cases s0 : s = 0
        · have h100 : n < 100 := by
            have := P.2
            rw [if_pos s0] at this
            exact of_decide_eq_true this
          rw [if_pos s0] at L2
          have fd : fdS n s = some ((n, 0, 0, 0), [], []) := by
            unfold fdS
            rw [if_pos P.1, if_pos s0, if_pos h100]
          refine ⟨h2, ?_, Fr.rf, fun l hl => by rw [fd] at hl; cases hl; exact L2⟩
          rw [fd]
          unfold Finder_seek
          refine gB L2.1.t ?_
          have c3 : hCe h2 (hCe h1 13 lv) 3 = 0 := L2.2.1.2.1
          rw [c3]
          exact ifF (by omega) (ifF (by omega) (ifF (by omega) (ifF (by omega) rfl)))
        · have two : n ≠ 2 := by
            have := P.2
            rw [if_neg s0] at this
            exact of_decide_eq_true this
          rw [if_neg s0] at L2
          have nb := isP_nb hn ip two
          obtain ⟨D, Uu, lyf, mD, mU, -⟩ := ly_form (n := n) (s := s) ⟨by omega, hs.2⟩
          obtain ⟨h3, e3, F3, B3, L3⟩ := s_seek hn ⟨by omega, hs.2⟩ L2 (fun r hr => by
            rw [lyf] at hr
            obtain ⟨x, hx, rfl⟩ := List.mem_map.mp hr
            have := (nb_lo1 nb (mD x hx)).1.1
            show 1 ≤ x.1
            omega) (fun r hr => by
            rw [lyf] at hr
            obtain ⟨x, hx, rfl⟩ := List.mem_map.mp hr
            have := (nb_hi1 nb (mU x hx)).1.1
            show 1 ≤ x.1
            omega)
          have fd : fdS n s = seS n s (lyS n s 0).1 (lyS n s 0).2 := by
            unfold fdS
            rw [if_pos P.1, if_neg s0, if_neg two]
          rw [fd]
          exact ⟨h3, e3, F3, L3⟩
      obtain ⟨h3, e3, F3, L3⟩ := seek
      have F3' : Fr (AK (hCe h2 13 lv)) h2 h3 := by rw [p2]; exact F3.mo fun b j z => Or.inl z.lk
      have U3 := U2.frA lt1 F3'
      have kp3 := kpD.frA U2.1.1 U2.1.2.1 lt1 F3'
      have p3 : hCe h3 13 lv = hCe h1 13 lv := (F3.2 _ _ (by unfold LQ PK SK; omega)).trans p2
      have G3 : Gr BP h2 h3 := F3.gr.mo fun b j z => by unfold LQ PK SK at z; unfold BP; omega
      cases fd : fdS n s with
      | none =>
        rw [fd] at e3
        exact ⟨h3, hw, dw1, st (ifF lyne (cB e3 (ifT rfl rfl))), U3, d1, G1.tr (G2.tr G3), K1.tr (kp2.tr kp3)⟩
      | some l =>
        rw [fd] at e3
        have Ll := L3 l fd
        have ok := fd_ok hn hs fd
        have two := (fd_P fd).2
        have cq := qs_CQ ip hn hs two hk
        have ql := qs_len hn ip hs ok Ll
        have l6 : hCe h3 (hCe h1 13 lv) 6 = -1 := (F3.2 _ _ (by unfold LQ PK SK; omega)).trans c6
        obtain ⟨h4, hw4, dw4, e4, U4, d4, G4, K4⟩ := ba_loop hS (by omega) ok (qsS n s) FU 0 h3 hw dw1 ls (by rw [List.drop_zero]; exact ok.2.2.2.1) cq (fu_big (by omega)) (Nat.zero_le _) lt1 U3 (by rw [p3]; exact Ll) (by rw [p3]; exact l6) (fun q hq => absurd hq List.not_mem_nil)
        rw [p3] at e4
        exact ⟨h4, hw4, dw4, st (ifF lyne (cB e3 (ifF one_ne e4))), U4, by omega, G1.tr (G2.tr (G3.tr G4)), K1.tr (kp2.tr (kp3.tr K4))⟩
/-! ### fewer lines -/
theorem gl_take {ls : List LN} {t i : Nat} (hi : i < t) : gl (ls.take t) i = gl ls i := by
  unfold gl
  rw [List.getD_eq_getElem?_getD, List.getD_eq_getElem?_getD, List.getElem?_take_of_lt hi]
theorem s_shorten {h : AH} {hw dw : Nat} {ls : List LN} (U : FUL h hw dw ls) {t : Nat} (ht : t ≤ ls.length) : ∃ h', Ledger_shorten 1 t h = some h' ∧ FUL h' hw dw (ls.take t) ∧ Fr (fun b j => b = 1 ∧ (j = 4 ∨ j = 5)) h h' := by
  obtain ⟨C, S, m, B⟩ := U
  have H := C.1
  have h60 := C.len
  have m63 := C.m63 (k := 0) B.2.1
  have t63 := p2_63 (i := t) (by omega)
  have p1 := Nat.two_pow_pos t
  have tl : (ls.take t).length = t := by rw [List.length_take]; omega
  let h1 := hSet (hSet h 1 5 t) 1 4 ((m &&& (2 ^ t - 1) : Nat) : Int)
  have F : Fr (fun b j => b = 1 ∧ (j = 4 ∨ j = 5)) h h1 := (Fr.set ⟨rfl, Or.inr rfl⟩).setT ⟨rfl, Or.inl rfl⟩
  have g : ∀ i, i < t → gl ls i = gl (ls.take t) i := fun i hi => (gl_take hi).symm
  refine ⟨h1, ?_, ⟨⟨H.fr F fun b j z => mutA (by unfold MutA; omega), C.2.1.fr F (fun j => by omega) (fun j => by omega), by rw [tl]; have := C.2.2.1; omega, ?_, fun i hi => ?_⟩, fun i hi => ?_, m &&& (2 ^ t - 1), cS _ _ _ _, ?_, fun i hi => ?_⟩, F⟩
  · unfold Ledger_shorten
    refine gB H.t1 ?_
    rw [C.sz]
    refine cB s_min ?_
    rw [show (if (t : Int) < (ls.length : Int) then (t : Int) else (ls.length : Int)) = t by split <;> omega]
    refine cB s_max ?_
    rw [show (if (0 : Int) < (t : Int) then (t : Int) else 0) = t by split <;> omega]
    refine gB H.t1 ?_
    refine gB H.t1 ?_
    refine gB H.t1 ?_
    rw [cN (b := 1) (j := 4) (by omega), cS, B.1, shl_1 (by omega)]
    refine gB H.t1 ?_
    rw [w64_e (by omega), show ((2 ^ t : Nat) : Int) - 1 = ((2 ^ t - 1 : Nat) : Int) by omega, andL_n m63 (by omega)]
  · rw [tl, show hCe h1 1 5 = _ from (cN (by omega)).trans (cS _ _ _ _)]
  · rw [tl] at hi
    have pr := C.pr (i := i) (by omega)
    have e2 : hCe h1 2 i = hCe h 2 i := F.2 _ _ (by omega)
    rw [e2, gl_take hi]
    refine ⟨(C.ln (by omega)).fr F fun b j x y _ => by omega, C.ok (by omega), ?_⟩
    unfold ltOK
    rw [F.2 _ _ (by omega)]
    exact C.lt (by omega)
  · rw [tl] at hi
    rw [F.2 _ _ (by omega), F.2 _ _ (by omega), F.2 _ _ (by omega)]
    have := S i (by omega)
    rw [fa_g g hi, re_g g i hi, de_g g i hi] at this
    exact this
  · rw [tl]
    exact Nat.and_lt_two_pow m (by omega)
  · rw [tl] at hi
    rw [Nat.testBit_and, Nat.testBit_two_pow_sub_one, decide_eq_true hi, Bool.and_true, B.2.2 i (by omega), rt_g t g i hi]
/-! ### find -/
theorem s_isNumber (n : Int) : Arithmetic_isNumber n = some (if 2 ≤ n ∧ n ≤ 1000000000 then 1 else 0) := by
  unfold Arithmetic_isNumber
  by_cases a : n < 2
  · refine ifT a ?_
    rw [if_neg (by omega)]
  · refine ifF a ?_
    by_cases b : (1000000000 : Int) < n
    · refine ifT b ?_
      rw [if_neg (by omega)]
    · refine ifF b ?_
      rw [if_pos (by omega)]
def loF (ls : List LN) (R : Nat → Bool) (n s : Int) : Nat → Nat → Int
  | 0, _ => -1
  | k + 1, j => if R j = true ∧ (gl ls j).1.1 = n ∧ (gl ls j).1.2.1 = s then (j : Int) else loF ls R n s k (j + 1)
theorem loF_c (ls : List LN) (R : Nat → Bool) (n s : Int) : ∀ k j, loF ls R n s k j = -1 ∨ (j : Int) ≤ loF ls R n s k j
  | 0, j => Or.inl rfl
  | k + 1, j => by
    unfold loF
    split
    · exact Or.inr (Int.le_refl _)
    · rcases loF_c ls R n s k (j + 1) with e | e
      · exact Or.inl e
      · exact Or.inr (by omega)
theorem lo_loop {h : AH} {hw dw : Nat} {ls : List LN} (U : FUL h hw dw ls) {n s : Int} : ∀ (k f j : Nat), j + k = ls.length → k < f → Ledger_leastOfSort_2 f 1 n s j h = some (loF ls (rtS ls) n s k j) := by
  obtain ⟨C, S, m, B⟩ := U
  have H := C.1
  have h60 := C.len
  have m63 := C.m63 (k := 0) B.2.1
  intro k
  induction k with
  | zero =>
    intro f j hj hf
    obtain ⟨f, rfl, -⟩ := fu_pos hf
    unfold Ledger_leastOfSort_2 loF
    refine gB H.t1 ?_
    rw [C.sz]
    exact ifF (by omega) rfl
  | succ k ih =>
    intro f j hj hf
    obtain ⟨f, rfl, hf⟩ := fu_pos hf
    have n1 : Ledger_leastOfSort_2 f 1 n s (w32 ((j : Int) + 1)) h = some (loF ls (rtS ls) n s k (j + 1)) := by
      rw [w32_e (by omega)]
      exact ih f (j + 1) (by omega) (by omega)
    unfold Ledger_leastOfSort_2 loF
    refine gB H.t1 ?_
    rw [C.sz]
    refine ifT (by omega) ?_
    refine gB H.t1 ?_
    refine cB (s_isRight C m63 B.1 (by omega)) ?_
    rw [B.2.2 j (by omega)]
    cases t : rtS ls j
    · refine ifT rfl ?_
      rw [if_neg (fun z => by cases z.1)]
      exact n1
    · refine ifF (by decide) ?_
      have L := C.ln (i := j) (by omega)
      refine gB H.t1 ?_
      rw [H.p1_0]
      refine gB ⟨H.t2, by omega, by rw [H.l2]; omega⟩ ?_
      refine gB L.1.t ?_
      rw [L.2.1.1]
      by_cases a : (gl ls j).1.1 = n
      · refine ifT a ?_
        refine gB H.t1 ?_
        refine gB ⟨H.t2, by omega, by rw [H.l2]; omega⟩ ?_
        refine gB L.1.t ?_
        rw [L.2.1.2.1]
        by_cases b : (gl ls j).1.2.1 = s
        · refine ifT b ?_
          rw [if_pos ⟨rfl, a, b⟩]
        · refine ifF b ?_
          rw [if_neg (fun z => b z.2.2)]
          exact n1
      · refine ifF a ?_
        rw [if_neg (fun z => a z.2.1)]
        exact n1
/-- what find answers, and what is there then -/
noncomputable def fiC (ls : List LN) (n s : Int) : Int × List LN := if ¬ (0 ≤ s ∧ s ≤ 4) ∨ ¬ (2 ≤ n ∧ n ≤ 1000000000) then (-1, ls) else if 0 ≤ loF ls (rtS ls) n s ls.length 0 then (loF ls (rtS ls) n s ls.length 0, ls) else if (brC 31 ls n s).1 < 0 then ((brC 31 ls n s).1, ls) else brC 31 ls n s
theorem okN_dec (n : Int) : okN n ↔ 2 ≤ n ∧ n ≤ 1000000000 := Iff.rfl
theorem s_find (hM : MRok) {h : AH} {hw dw : Nat} {ls : List LN} (U : FUL h hw dw ls) (n s : Int) : ∃ h' hw' dw', X_find 0 n s h = some ((fiC ls n s).1, h') ∧ FUL h' hw' dw' (fiC ls n s).2 ∧ Gr BP h h' := by
  have H := U.1.1
  have h60 := U.1.len
  unfold fiC
  by_cases c : ¬ (0 ≤ s ∧ s ≤ 4) ∨ ¬ (2 ≤ n ∧ n ≤ 1000000000)
  · rw [if_pos c]
    refine ⟨h, hw, dw, ?_, U, Gr.rf⟩
    unfold X_find
    refine cB (s_isNumber n) ?_
    by_cases a : 2 ≤ n ∧ n ≤ 1000000000
    · rw [if_pos a]
      refine ifF one_ne ?_
      by_cases b : s < 0
      · exact ifT b rfl
      · refine ifF b ?_
        refine ifT ?_ rfl
        rcases c with c | c
        · omega
        · exact absurd a c
    · rw [if_neg a]
      exact ifT rfl rfl
  · rw [if_neg c]
    have hs : 0 ≤ s ∧ s ≤ 4 := Classical.byContradiction fun z => c (Or.inl z)
    have hn : okN n := Classical.byContradiction fun z => c (Or.inr z)
    have start : ∀ {r}, (if loF ls (rtS ls) n s ls.length 0 < 0 then (Finder_bring 6 n s h).bind fun u5 => some (u5.1, u5.2) else some (loF ls (rtS ls) n s ls.length 0, h)) = r → X_find 0 n s h = r := by
      rintro r rfl
      unfold X_find
      refine cB (s_isNumber n) ?_
      rw [if_pos (show 2 ≤ n ∧ n ≤ 1000000000 from hn)]
      refine ifF one_ne ?_
      refine ifF (by omega) ?_
      refine ifF (by omega) ?_
      refine gB H.t0 ?_
      rw [H.p0_0]
      refine gB H.t1 ?_
      have := lo_loop U (n := n) (s := s) ls.length FU 0 (by omega) (fu_big (by omega))
      refine cB this ?_
      congr 1
      refine gB H.t0 ?_
      rw [H.p0_1]
      exact gB H.t6 rfl
    by_cases lo : 0 ≤ loF ls (rtS ls) n s ls.length 0
    · rw [if_pos lo]
      exact ⟨h, hw, dw, start (ifF (by omega) rfl), U, Gr.rf⟩
    · rw [if_neg lo]
      have n2 : n ≤ 2 ^ 30 := by have := hn.2; omega
      obtain ⟨h1, hw1, dw1, e1, U1, d1, G1, -⟩ := s_bringAt hM 30 45 0 (by omega) (by omega) h hw dw ls n s U (Nat.zero_le _) hn hs n2
      obtain ⟨suf, ex, -⟩ := brC_ok 30 ls n s hn hs n2
      have H1 := U1.1.1
      have st2 : ∀ {r}, (if (brC 31 ls n s).1 < 0 then (Ledger_shorten 1 ls.length h1).bind fun h6 => some ((brC 31 ls n s).1, h6) else some ((brC 31 ls n s).1, h1)) = r → X_find 0 n s h = r := by
        rintro r rfl
        refine start (ifT (by omega) ?_)
        have br : Finder_bring 6 n s h = if (brC 31 ls n s).1 < 0 then (Ledger_shorten 1 ls.length h1).bind fun h6 => some ((brC 31 ls n s).1, h6) else some ((brC 31 ls n s).1, h1) := by
          unfold Finder_bring
          refine gB H.t6 ?_
          rw [H.p6_0]
          refine gB H.t1 ?_
          rw [U.1.sz]
          refine gB H.t6 ?_
          refine cB e1 ?_
          dsimp only
          congr 1
          refine gB H1.t6 ?_
          rw [H1.p6_0]
          exact gB H1.t1 rfl
        rw [br]
        by_cases z : (brC 31 ls n s).1 < 0
        · rw [if_pos z]
          cases Ledger_shorten 1 ls.length h1 <;> rfl
        · rw [if_neg z]; rfl
      by_cases z : (brC 31 ls n s).1 < 0
      · rw [if_pos z]
        obtain ⟨h2, e2, U2, F2⟩ := s_shorten U1 (t := ls.length) (by rw [show brC (30 + 1) ls n s = brC 31 ls n s from rfl] at ex; rw [show (brC (30 + 1) ls n s).2 = ls ++ suf from ex, List.length_append]; omega)
        rw [show (brC (30 + 1) ls n s).2 = ls ++ suf from ex, List.take_left'] at U2
        · exact ⟨h2, hw1, dw1, st2 (ifT z (cB e2 rfl)), U2, G1.tr (F2.gr.mo fun b j y => by unfold BP; omega)⟩
        · rfl
      · rw [if_neg z]
        exact ⟨h1, hw1, dw1, st2 (ifF z rfl), U1, G1⟩
