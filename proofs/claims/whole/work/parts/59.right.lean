/-! a line that is found is right -/
def qsS (n s : Int) : List Int := if s = 0 then [] else ((lyS n s 0).1 ++ (lyS n s 0).2).map fun r => r.1
theorem tu_0 {n s : Int} {D U : List FE} (full : pfS n s (prE D) (prE U) = 0) : ∀ (k di ui : Nat) (up : Bool), di + ui ≤ k → di ≤ D.length → ui ≤ U.length → pfS n s (prE (D.drop (tuN n s D U k di ui up).1)) (prE (U.drop (tuN n s D U k di ui up).2)) = 0
  | 0, di, ui, up, h, _, _ => by
    have z1 : di = 0 := by omega
    have z2 : ui = 0 := by omega
    subst z1 z2
    exact full
  | k + 1, di, ui, up, h, h1, h2 => by
    unfold tuN
    by_cases p : pfS n s (prE (D.drop di)) (prE (U.drop ui)) = 0
    · rw [if_pos p]; exact p
    · rw [if_neg p]
      by_cases c : 0 < ui ∧ (up = true ∨ di = 0)
      · rw [if_pos c]
        exact tu_0 full k di (ui - 1) false (by omega) h1 (by omega)
      · rw [if_neg c]
        by_cases d : 0 < di
        · rw [if_pos d]
          exact tu_0 full k (di - 1) ui true (by omega) (by omega) h2
        · rw [if_neg d]
          exfalso
          have z1 : di = 0 := by omega
          have z2 : ui = 0 := by
            rcases Nat.eq_zero_or_pos ui with z | z
            · exact z
            · exact absurd ⟨z, Or.inr z1⟩ c
          subst z1 z2
          exact p full
theorem ly_pf {n s : Int} (nb : nbOK n) (hs : 1 ≤ s ∧ s ≤ 4) (b : Int) : pfS n s (prF (lyS n s b).1) (prF (lyS n s b).2) = 0 := by
  have lo := nb_lo nb
  have hi := nb_hi nb
  have lo9 := lo.2
  have hi9 := hi.2
  unfold lyS
  by_cases s1 : s = 1
  · rw [if_pos s1, s1]
    show pfS n 1 (prF ((facS (n - 1)).map (rD b))) _ = 0
    rw [prF_m, lo.1.2.2]
    unfold pfS
    rw [if_pos rfl, if_pos rfl]
  by_cases s2 : s = 2
  · rw [if_neg s1, if_pos s2, s2]
    show pfS n 2 (prF (rvD b _)) 1 = 0
    rw [prF_v]
    have := tu_0 (n := n) (s := 2) (D := facS (n - 1)) (U := []) (by rw [lo.1.2.2]; exact pf_all nb (Or.inl rfl) (fun y => by omega)) 18 (facS (n - 1)).length 0 false (by omega) (Nat.le_refl _) (Nat.zero_le _)
    rw [List.drop_nil] at this
    exact this
  by_cases s3 : s = 3
  · rw [if_neg s1, if_neg s2, if_pos s3, s3]
    show pfS n 3 _ (prF ((facS (n + 1)).map (rD 0))) = 0
    rw [prF_m, hi.1.2.2]
    unfold pfS
    rw [if_neg (by decide), if_neg (by decide), if_pos rfl, if_pos rfl]
  · rw [if_neg s1, if_neg s2, if_neg s3, show s = 4 by omega]
    show pfS n 4 (prF (rvD b _)) (prF (rvD 0 _)) = 0
    rw [prF_v, prF_v]
    exact tu_0 (by rw [lo.1.2.2, hi.1.2.2]; exact pf_all nb (Or.inr rfl) (fun _ => rfl)) 18 _ _ false (by omega) (Nat.le_refl _) (Nat.le_refl _)
/-- unlike numbers -/
def ndL (l : List Int) : Prop := l.Pairwise (fun x y => x ≠ y)
theorem nd_rp {l : List RW} (h : ndL (l.map fun r => r.1)) : ¬ rpP l := by
  rintro ⟨i, k, a, b, c⟩
  have hp := List.pairwise_iff_getElem.mp h k i (by rw [List.length_map]; omega) (by rw [List.length_map]; omega) a
  rw [List.getElem_map, List.getElem_map] at hp
  unfold gt at c
  rw [List.getD_eq_getElem?_getD, List.getD_eq_getElem?_getD, List.getElem?_eq_getElem b, List.getElem?_eq_getElem (by omega)] at c
  exact hp c.symm
theorem nd_fac {r : Int} {l : List FE} {d : Int} (h : fcOK d r l) (b : Int) : ndL ((l.map (rD b)).map fun r => r.1) := by
  rw [List.map_map]
  refine List.pairwise_map.mpr ?_
  exact h.2.1.imp fun {x y} q => by show x.1 ≠ y.1; omega
theorem nd_rev {l : List Int} (h : ndL l) : ndL l.reverse := List.pairwise_reverse.mpr (h.imp fun {x y} q => fun z => q z.symm)
theorem nd_drop {l : List Int} (h : ndL l) (i : Nat) : ndL (l.drop i) := h.sublist (List.drop_sublist i l)
theorem rv_fst (b : Int) (l : List FE) (i : Nat) : (rvD b (l.drop i)).map (fun r => r.1) = (((l.map (rD b)).map fun r => r.1).drop i).reverse := by
  unfold rvD
  rw [List.map_map, List.map_map, List.map_reverse, List.map_drop]
theorem ly_nd {n s : Int} (nb : nbOK n) (hs : 1 ≤ s ∧ s ≤ 4) (b : Int) : ndL ((lyS n s b).1.map fun r => r.1) ∧ ndL ((lyS n s b).2.map fun r => r.1) := by
  have lo := (nb_lo nb).1
  have hi := (nb_hi nb).1
  have e : ndL (([] : List RW).map fun r => r.1) := List.Pairwise.nil
  unfold lyS
  by_cases s1 : s = 1
  · rw [if_pos s1]
    exact ⟨nd_fac lo b, e⟩
  by_cases s2 : s = 2
  · rw [if_neg s1, if_pos s2]
    refine ⟨?_, e⟩
    show ndL ((rvD b _).map _)
    rw [rv_fst]
    exact nd_rev (nd_drop (nd_fac lo b) _)
  by_cases s3 : s = 3
  · rw [if_neg s1, if_neg s2, if_pos s3]
    exact ⟨e, nd_fac hi 0⟩
  · rw [if_neg s1, if_neg s2, if_neg s3]
    refine ⟨?_, ?_⟩
    · show ndL ((rvD b _).map _)
      rw [rv_fst]
      exact nd_rev (nd_drop (nd_fac lo b) _)
    · show ndL ((rvD 0 _).map _)
      rw [rv_fst]
      exact nd_rev (nd_drop (nd_fac hi 0) _)
theorem prF_fst : ∀ {l k : List RW}, l.map (fun r => (r.1, r.2.1)) = k.map (fun r => (r.1, r.2.1)) → prF l = prF k
  | [], [], _ => rfl
  | [], _ :: _, h => by cases h
  | _ :: _, [], h => by cases h
  | r :: l, x :: k, h => by
    have h1 := List.cons.inj h
    have h2 := Prod.mk.inj h1.1
    show r.1 ^ r.2.1.toNat * prF l = x.1 ^ x.2.1.toNat * prF k
    rw [h2.1, h2.2, prF_fst h1.2]
theorem fst_fst {l k : List RW} (h : l.map (fun r => (r.1, r.2.1)) = k.map (fun r => (r.1, r.2.1))) : l.map (fun r => r.1) = k.map (fun r => r.1) := by
  have := congrArg (List.map (fun p : Int × Int => p.1)) h
  rw [List.map_map, List.map_map] at this
  exact this
theorem ok_fst {l k : List RW} (h : l.map (fun r => (r.1, r.2.1)) = k.map (fun r => (r.1, r.2.1))) (hk : ∀ r ∈ k, okR r) : ∀ r ∈ l, okR r := by
  intro r hr
  have h1 : (r.1, r.2.1) ∈ k.map fun r => (r.1, r.2.1) := by rw [← h]; exact List.mem_map.mpr ⟨r, hr, rfl⟩
  obtain ⟨x, hx, e⟩ := List.mem_map.mp h1
  have e2 := Prod.mk.inj e
  have := hk x hx
  unfold okR at *
  rw [← e2.1, ← e2.2]
  exact this
theorem bs_ok {n : Int} : ∀ {l v : List RW}, bsS n l = some v → ∀ r ∈ v, okB r.2.2 ∧ rfS n r.1 r.2.2 = 0
  | [], v, h => by cases h; exact fun r hr => absurd hr List.not_mem_nil
  | x :: l, v, h => by
    unfold bsS at h
    cases lb : lbS n x.1 with
    | none => rw [lb] at h; cases h
    | some b =>
      rw [lb] at h
      cases bs : bsS n l with
      | none => rw [bs] at h; cases h
      | some v' =>
        rw [bs] at h
        cases h
        intro r hr
        rcases List.mem_cons.mp hr with rfl | hr
        · obtain ⟨a1, a2, a3, -⟩ := fstB_s lb
          exact ⟨⟨a1, by show b ≤ 999; omega⟩, of_decide_eq_true a3⟩
        · exact bs_ok bs r hr
theorem df_rf {n : Int} {l : List RW} (h : ∀ r ∈ l, rfS n r.1 r.2.2 = 0) : dfS n l = 0 := by
  rw [df_0]
  unfold d5 d6
  rw [List.all_eq_true, List.all_eq_true]
  exact ⟨fun r hr => decide_eq_true (rf_0.mp (h r hr)).1, fun r hr => decide_eq_true (rf_0.mp (h r hr)).2⟩
theorem pq_ok {n : Int} {U : List RW} : ∀ {k : Nat} {p : Int} {v : Int × Int}, pqS n U k p = some v → 1 ≤ p → p + k = 100 → okP v.1 ∧ okP v.2 ∧ upS n v.1 v.2 U = 0
  | 0, p, v, h, _, _ => by cases h
  | k + 1, p, v, h, h1, h2 => by
    unfold pqS at h
    cases fs : fstB (fun q => decide (upS n p q U = 0)) 99 1 with
    | none => rw [fs] at h; exact pq_ok h (by omega) (by omega)
    | some q =>
      rw [fs] at h
      cases h
      obtain ⟨a1, a2, a3, -⟩ := fstB_s fs
      exact ⟨⟨h1, by show p ≤ 99; omega⟩, ⟨a1, by show q ≤ 99; omega⟩, of_decide_eq_true a3⟩
/-- what is known of a line that is found -/
def fdOK (n s : Int) (l : LN) : Prop := okL l ∧ l.1.1 = n ∧ l.1.2.1 = s ∧ (rows l).map (fun r => r.1) = qsS n s ∧ f1S l = false ∧ ¬ rpP l.2.1 ∧ ¬ rpP l.2.2 ∧ laS l = 0
theorem fd_make {n s p q : Int} (nb : nbOK n) (hs : 1 ≤ s ∧ s ≤ 4) {D' : List RW} (fD : D'.map (fun r => (r.1, r.2.1)) = (lyS n s 0).1.map fun r => (r.1, r.2.1)) (bD : ∀ r ∈ D', okB r.2.2) (df : dfS n D' = 0) (pq3 : 3 ≤ s → okP p ∧ okP q ∧ upS n p q (lyS n s 0).2 = 0) (pq0 : s ≤ 2 → p = 0 ∧ q = 0) : fdOK n s ((n, s, p, q), D', (lyS n s 0).2) := by
  obtain ⟨n1, n2, n3⟩ := id nb
  obtain ⟨D, U, ly, mD, mU, u0, d0, -⟩ := ly_form (n := n) hs
  have nd := ly_nd nb hs 0
  have pf := ly_pf nb hs 0
  have e1 : (lyS n s 0).1 = D.map (rD 0) := by rw [ly]
  have e2 : (lyS n s 0).2 = U.map (rD 0) := by rw [ly]
  have okD : ∀ r ∈ (lyS n s 0).1, okR r := fun r hr => by
    rw [e1] at hr
    obtain ⟨x, hx, rfl⟩ := List.mem_map.mp hr
    have := nb_lo1 nb (mD x hx)
    exact rD_ok nb ⟨this.1, this.2.1, this.2.2.1, this.2.2.2.2⟩
  refine ⟨⟨⟨by show 2 ≤ n; omega, n2⟩, by show 0 ≤ s; omega, hs.2, fun r hr => ⟨ok_fst fD okD r hr, bD r hr⟩, fun r hr => ?_, fun z => ?_, fun z => ?_, fun z => ⟨(pq3 z).1, (pq3 z).2.1⟩, fun z => pq0 z⟩, rfl, rfl, ?_, ?_, ?_, nd_rp nd.2, ?_⟩
  · have hr2 : r ∈ U.map (rD 0) := by rw [← e2]; exact hr
    obtain ⟨x, hx, rfl⟩ := List.mem_map.mp hr2
    have := nb_hi1 nb (mU x hx)
    exact ⟨rD_ok nb ⟨this.1, this.2.1, this.2.2.1, this.2.2.2.2⟩, rfl⟩
  · have z3 : s = 3 := by
      have z' : s = 0 ∨ s = 3 := z
      omega
    have e3 : (lyS n s 0).1 = [] := by rw [e1, d0 z3]; rfl
    rw [e3] at fD
    exact List.map_eq_nil_iff.mp fD
  · have z' : s ≤ 2 := z
    show (lyS n s 0).2 = []
    rw [e2, u0 z']; rfl
  · show (D' ++ (lyS n s 0).2).map (fun r => r.1) = qsS n s
    unfold qsS
    rw [if_neg (by omega), List.map_append, List.map_append, fst_fst fD]
  · unfold f1S
    rw [if_neg (show ¬ s = 0 by omega)]
    exact decide_eq_false (by show ¬ n % 2 = 0; omega)
  · refine nd_rp ?_
    show ndL (D'.map fun r => r.1)
    rw [fst_fst fD]
    exact nd.1
  · unfold laS
    rw [if_neg (show ¬ s = 0 by omega)]
    show (if pfS n s (prF D') (prF (lyS n s 0).2) = 0 then (if dfS n D' = 0 then (if s = 3 ∨ s = 4 then upS n p q (lyS n s 0).2 else 0) else dfS n D') else pfS n s (prF D') (prF (lyS n s 0).2)) = 0
    rw [prF_fst fD, if_pos pf, if_pos df]
    by_cases z : s = 3 ∨ s = 4
    · rw [if_pos z]; exact (pq3 (by omega)).2.2
    · rw [if_neg z]
theorem fd_ok {n s : Int} {l : LN} (hn : okN n) (hs : 0 ≤ s ∧ s ≤ 4) (h : fdS n s = some l) : fdOK n s l := by
  unfold fdS at h
  by_cases p : prS n = 1
  · rw [if_pos p] at h
    have ip := prS_isP p
    by_cases s0 : s = 0
    · rw [if_pos s0] at h
      by_cases h100 : n < 100
      · rw [if_pos h100] at h
        cases h
        subst s0
        have nr : ¬ rpP [] := fun ⟨i, k, a, b, c⟩ => absurd b (Nat.not_lt_zero i)
        refine ⟨⟨hn, Int.le_refl _, by show (0 : Int) ≤ 4; omega, fun r hr => absurd hr List.not_mem_nil, fun r hr => absurd hr List.not_mem_nil, fun _ => rfl, fun _ => rfl, fun z => ?_, fun _ => ⟨rfl, rfl⟩⟩, rfl, rfl, rfl, ?_, nr, nr, rfl⟩
        · have : (3 : Int) ≤ 0 := z
          omega
        · unfold f1S
          rw [if_pos rfl]
          show (!(decide (n < 100) && decide (prS n = 1))) = false
          rw [decide_eq_true h100, decide_eq_true p]; rfl
      · rw [if_neg h100] at h; cases h
    · rw [if_neg s0] at h
      by_cases two : n = 2
      · rw [if_pos two] at h; cases h
      · rw [if_neg two] at h
        have nb := isP_nb hn ip two
        have hs' : 1 ≤ s ∧ s ≤ 4 := ⟨by omega, hs.2⟩
        unfold seS at h
        by_cases s1 : s = 1
        · rw [if_pos s1] at h
          cases fb : fbS n (lyS n s 0).1 with
          | none => rw [fb] at h; cases h
          | some a =>
            rw [fb] at h
            cases h
            obtain ⟨a1, a2, a3, -⟩ := fstB_s fb
            refine fd_make nb hs' (by rw [List.map_map]; rfl) (fun r hr => ?_) (of_decide_eq_true a3) (fun z => by omega) (fun _ => ⟨rfl, rfl⟩)
            obtain ⟨x, hx, rfl⟩ := List.mem_map.mp hr
            exact ⟨a1, by show a ≤ 999; omega⟩
        · rw [if_neg s1] at h
          by_cases s2 : s = 2
          · rw [if_pos s2] at h
            cases bs : bsS n (lyS n s 0).1 with
            | none => rw [bs] at h; cases h
            | some v =>
              rw [bs] at h
              cases h
              exact fd_make nb hs' (bsS_fst bs) (fun r hr => (bs_ok bs r hr).1) (df_rf fun r hr => (bs_ok bs r hr).2) (fun z => by omega) (fun _ => ⟨rfl, rfl⟩)
          · rw [if_neg s2] at h
            by_cases s3 : s = 3
            · rw [if_pos s3] at h
              obtain ⟨D, U, ly, mD, mU, u0, d0, -⟩ := ly_form (n := n) hs'
              have e1 : (lyS n s 0).1 = [] := by rw [ly, d0 s3]; rfl
              cases pq : pqS n (lyS n s 0).2 99 1 with
              | none => rw [pq] at h; cases h
              | some v =>
                rw [pq] at h
                cases h
                refine fd_make nb hs' rfl (fun r hr => ?_) (by rw [e1]; rfl) (fun _ => pq_ok pq (by omega) (by omega)) (fun z => by omega)
                rw [e1] at hr
                exact absurd hr List.not_mem_nil
            · rw [if_neg s3] at h
              cases bs : bsS n (lyS n s 0).1 with
              | none => rw [bs] at h; cases h
              | some v =>
                rw [bs] at h
                cases pq : pqS n (lyS n s 0).2 99 1 with
                | none => simp only [pq] at h; cases h
                | some w =>
                  simp only [pq] at h
                  cases h
                  exact fd_make nb hs' (bsS_fst bs) (fun r hr => (bs_ok bs r hr).1) (df_rf fun r hr => (bs_ok bs r hr).2) (fun _ => pq_ok pq (by omega) (by omega)) (fun z => by omega)
  · rw [if_neg p] at h; cases h
/-- what it rests on -/
theorem qs_ok {n s : Int} (nb : nbOK n) (hs : 1 ≤ s ∧ s ≤ 4) {q : Int} (h : q ∈ qsS n s) : isP q ∧ 2 * q ≤ n + 1 := by
  obtain ⟨D, U, ly, mD, mU, -⟩ := ly_form (n := n) hs
  unfold qsS at h
  rw [if_neg (by omega), ly] at h
  obtain ⟨r, hr, rfl⟩ := List.mem_map.mp h
  rcases List.mem_append.mp hr with hr | hr
  · obtain ⟨x, hx, rfl⟩ := List.mem_map.mp hr
    have := nb_lo1 nb (mD x hx)
    exact ⟨this.1, this.2.2.2.2⟩
  · obtain ⟨x, hx, rfl⟩ := List.mem_map.mp hr
    have := nb_hi1 nb (mU x hx)
    exact ⟨this.1, this.2.2.2.2⟩
/-- it is right behind lines that have right ones for all that it names -/
theorem fd_right {ls : List LN} {n s : Int} {l : LN} (h : fdOK n s l) (av : ∀ q ∈ qsS n s, 0 ≤ ahS ls (rtS ls) ls.length q) : faT (ls ++ [l]) ls.length = 0 := by
  obtain ⟨ok, e1, e2, e3, f1, r1, r2, la⟩ := h
  have gl0 : gl (ls ++ [l]) ls.length = l := by
    unfold gl
    rw [List.getD_eq_getElem?_getD, List.getElem?_append_right (Nat.le_refl _), Nat.sub_self]; rfl
  have gl1 : ∀ i, i < ls.length → gl ls i = gl (ls ++ [l]) i := fun i hi => by
    unfold gl
    rw [List.getD_eq_getElem?_getD, List.getD_eq_getElem?_getD, List.getElem?_append_left hi]
  have st : stS (ls ++ [l]) (rtS (ls ++ [l])) ls.length = true := by
    unfold stS sdL
    rw [gl0, List.all_eq_true]
    intro r hr
    have : r.1 ∈ qsS n s := by rw [← e3]; exact List.mem_map.mpr ⟨r, hr, rfl⟩
    refine decide_eq_true ?_
    rw [← ahS_g (ls := ls) (R := rtS ls) fun i hi => ⟨rt_g ls.length gl1 i hi, by rw [gl1 i hi]⟩]
    exact av _ this
  unfold faT faS
  rw [gl0, f1, if_neg (by decide), if_neg, la]
  rintro (z | z | z)
  · exact r1 (pB_1.mp z)
  · exact r2 (pB_1.mp z)
  · rw [st] at z; cases z
