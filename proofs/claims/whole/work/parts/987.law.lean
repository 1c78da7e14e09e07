/-! the law, call by call -/
def LZ (o : Option (Int × AH)) : Prop := ∃ h', o = some (1, h') ∧ Sh h'
theorem lft_i {o : Option Int} {h h1 : AH} {r : Int} (e : lft o h = some (r, h1)) : o = some r ∧ h1 = h := by
  unfold lft at e
  cases o with
  | none => cases e
  | some v =>
    have e : some (v, h) = some (r, h1) := e
    injection e with e
    injection e with e1 e2
    subst e1
    exact ⟨rfl, e2.symm⟩
theorem LZ.go {o o' : Option (Int × AH)} (c : LZ o) (e : o' = o) : LZ o' := by rw [e]; exact c
section LAW
variable {sc : AS} {k18 : Int → Int → Int → AH → Option (Int × AH)} {i : Int} {h : AH} {ls : List LN} {tp : List Int}
theorem l_1500 (hs : sc.1 ≤ 3072) (b : 0 ≤ i ∧ i + 6 ≤ sc.1) : Law_law_1500 sc k18 0 27 i h = k18 0 27 (i + 6) h := by
  unfold Law_law_1500
  rw [w32_e (z := i + 6) (by omega)]
theorem lc_208 (hM : MRok) (hP : PRok) (hs : sc.1 ≤ 3072) (hi : ∀ j, i32 (sc.2 j)) (b : 0 ≤ i ∧ i + 6 ≤ sc.1) (x : XS h ls tp) (m : MS h ls tp) (K : ∀ h2 ls2 tp2, XS h2 ls2 tp2 → MS h2 ls2 tp2 → LZ (k18 0 27 (i + 6) h2)) : LZ (Law_law_208 sc k18 0 27 i h) := by
  obtain ⟨r, h1, h2, ls2, tp2, eX, eR, H1, x2, m2⟩ := (q_find hM hP (sc.2 (i + 1)) (sc.2 (i + 2))) h ls tp x m
  have H := x.sh
  refine (K _ ls2 tp2 x2 m2).go ?_
  unfold Law_law_208
  rw [w32_e (z := i + 1) (by omega), w32_e (z := i + 2) (by omega)]
  refine gB (by omega) ?_
  refine gB (by omega) ?_
  refine gB H.t0 ?_
  refine cB eX ?_
  refine gB (by omega) ?_
  refine gB (by omega) ?_
  refine gB H1.t27 ?_
  refine cB eR ?_
  refine ifT rfl ?_
  exact l_1500 hs b
theorem lc_241 (hs : sc.1 ≤ 3072) (hi : ∀ j, i32 (sc.2 j)) (b : 0 ≤ i ∧ i + 6 ≤ sc.1) (x : XS h ls tp) (m : MS h ls tp) (K : ∀ h2 ls2 tp2, XS h2 ls2 tp2 → MS h2 ls2 tp2 → LZ (k18 0 27 (i + 6) h2)) : LZ (Law_law_241 sc k18 0 27 i h) := by
  obtain ⟨r, h1, h2, ls2, tp2, eX, eR, H1, x2, m2⟩ := (q_feed (sc.2 (i + 1)) (sc.2 (i + 2)) (sc.2 (i + 3)) (sc.2 (i + 4)) (sc.2 (i + 5))) h ls tp x m
  have H := x.sh
  refine (K _ ls2 tp2 x2 m2).go ?_
  unfold Law_law_241
  rw [w32_e (z := i + 1) (by omega), w32_e (z := i + 2) (by omega), w32_e (z := i + 3) (by omega), w32_e (z := i + 4) (by omega), w32_e (z := i + 5) (by omega)]
  refine gB (by omega) ?_
  refine gB (by omega) ?_
  refine gB (by omega) ?_
  refine gB (by omega) ?_
  refine gB (by omega) ?_
  refine gB H.t0 ?_
  refine cB eX ?_
  refine gB (by omega) ?_
  refine gB (by omega) ?_
  refine gB (by omega) ?_
  refine gB (by omega) ?_
  refine gB (by omega) ?_
  refine gB H1.t27 ?_
  refine cB eR ?_
  refine ifT rfl ?_
  exact l_1500 hs b
theorem lc_304 (hs : sc.1 ≤ 3072) (hi : ∀ j, i32 (sc.2 j)) (b : 0 ≤ i ∧ i + 6 ≤ sc.1) (x : XS h ls tp) (m : MS h ls tp) (K : ∀ h2 ls2 tp2, XS h2 ls2 tp2 → MS h2 ls2 tp2 → LZ (k18 0 27 (i + 6) h2)) : LZ (Law_law_304 sc k18 0 27 i h) := by
  obtain ⟨r, h1, h2, ls2, tp2, eX, eR, H1, x2, m2⟩ := (q_back (n := sc.2 (i + 1)) (hi _)) h ls tp x m
  have H := x.sh
  refine (K _ ls2 tp2 x2 m2).go ?_
  unfold Law_law_304
  rw [w32_e (z := i + 1) (by omega)]
  refine gB (by omega) ?_
  refine gB H.t0 ?_
  refine cB eX ?_
  refine gB (by omega) ?_
  refine gB H1.t27 ?_
  refine cB eR ?_
  refine ifT rfl ?_
  exact l_1500 hs b
theorem lc_327 (hM : MRok) (hs : sc.1 ≤ 3072) (hi : ∀ j, i32 (sc.2 j)) (b : 0 ≤ i ∧ i + 6 ≤ sc.1) (x : XS h ls tp) (m : MS h ls tp) (K : ∀ h2 ls2 tp2, XS h2 ls2 tp2 → MS h2 ls2 tp2 → LZ (k18 0 27 (i + 6) h2)) : LZ (Law_law_327 sc k18 0 27 i h) := by
  obtain ⟨r, h1, h2, ls2, tp2, eX, eR, H1, x2, m2⟩ := (q_read hM ) h ls tp x m
  have H := x.sh
  refine (K _ ls2 tp2 x2 m2).go ?_
  unfold Law_law_327
  refine gB H.t0 ?_
  refine cB eX ?_
  refine gB H1.t27 ?_
  refine cB eR ?_
  refine ifT rfl ?_
  exact l_1500 hs b
theorem lc_340 (hM : MRok) (hs : sc.1 ≤ 3072) (hi : ∀ j, i32 (sc.2 j)) (b : 0 ≤ i ∧ i + 6 ≤ sc.1) (x : XS h ls tp) (m : MS h ls tp) (K : ∀ h2 ls2 tp2, XS h2 ls2 tp2 → MS h2 ls2 tp2 → LZ (k18 0 27 (i + 6) h2)) : LZ (Law_law_340 sc k18 0 27 i h) := by
  obtain ⟨r, h1, h2, ls2, tp2, eX, eR, H1, x2, m2⟩ := (q_set hM (sc.2 (i + 1)) (sc.2 (i + 2)) (sc.2 (i + 3))) h ls tp x m
  have H := x.sh
  refine (K _ ls2 tp2 x2 m2).go ?_
  unfold Law_law_340
  rw [w32_e (z := i + 1) (by omega), w32_e (z := i + 2) (by omega), w32_e (z := i + 3) (by omega)]
  refine gB (by omega) ?_
  refine gB (by omega) ?_
  refine gB (by omega) ?_
  refine gB H.t0 ?_
  refine cB eX ?_
  refine gB (by omega) ?_
  refine gB (by omega) ?_
  refine gB (by omega) ?_
  refine gB H1.t27 ?_
  refine cB eR ?_
  refine ifT rfl ?_
  exact l_1500 hs b
theorem lc_383 (hM : MRok) (hs : sc.1 ≤ 3072) (hi : ∀ j, i32 (sc.2 j)) (b : 0 ≤ i ∧ i + 6 ≤ sc.1) (x : XS h ls tp) (m : MS h ls tp) (K : ∀ h2 ls2 tp2, XS h2 ls2 tp2 → MS h2 ls2 tp2 → LZ (k18 0 27 (i + 6) h2)) : LZ (Law_law_383 sc k18 0 27 i h) := by
  by_cases q0 : sc.2 (i + 2) = 0
  · obtain ⟨r, h1, h2, ls2, tp2, eX, eR, H1, x2, m2⟩ := (q_alter hM (sc.2 (i + 1)) 0 (sc.2 (i + 3)) (sc.2 (i + 4)) (sc.2 (i + 5))) h ls tp x m
    have H := x.sh
    refine (K _ ls2 tp2 x2 m2).go ?_
    unfold Law_law_383
    rw [w32_e (z := i + 1) (by omega), w32_e (z := i + 2) (by omega)]
    refine gB (by omega) ?_
    refine gB (by omega) ?_
    refine ifT q0 ?_
    unfold Law_law_402
    rw [w32_e (z := i + 1) (by omega), w32_e (z := i + 2) (by omega), w32_e (z := i + 3) (by omega), w32_e (z := i + 4) (by omega), w32_e (z := i + 5) (by omega)]
    refine gB (by omega) ?_
    refine gB (by omega) ?_
    refine gB (by omega) ?_
    refine gB H.t0 ?_
    refine cB eX ?_
    refine gB (by omega) ?_
    refine gB (by omega) ?_
    refine ifT q0 ?_
    unfold Law_law_439
    rw [w32_e (z := i + 3) (by omega), w32_e (z := i + 4) (by omega), w32_e (z := i + 5) (by omega)]
    refine gB (by omega) ?_
    refine gB (by omega) ?_
    refine gB (by omega) ?_
    refine gB H1.t27 ?_
    refine cB eR ?_
    refine ifT rfl ?_
    exact l_1500 hs b
  · obtain ⟨r, h1, h2, ls2, tp2, eX, eR, H1, x2, m2⟩ := (q_alter hM (sc.2 (i + 1)) 1 (sc.2 (i + 3)) (sc.2 (i + 4)) (sc.2 (i + 5))) h ls tp x m
    have H := x.sh
    refine (K _ ls2 tp2 x2 m2).go ?_
    unfold Law_law_383
    rw [w32_e (z := i + 1) (by omega), w32_e (z := i + 2) (by omega)]
    refine gB (by omega) ?_
    refine gB (by omega) ?_
    refine ifF q0 ?_
    unfold Law_law_402
    rw [w32_e (z := i + 1) (by omega), w32_e (z := i + 2) (by omega), w32_e (z := i + 3) (by omega), w32_e (z := i + 4) (by omega), w32_e (z := i + 5) (by omega)]
    refine gB (by omega) ?_
    refine gB (by omega) ?_
    refine gB (by omega) ?_
    refine gB H.t0 ?_
    refine cB eX ?_
    refine gB (by omega) ?_
    refine gB (by omega) ?_
    refine ifF q0 ?_
    unfold Law_law_439
    rw [w32_e (z := i + 3) (by omega), w32_e (z := i + 4) (by omega), w32_e (z := i + 5) (by omega)]
    refine gB (by omega) ?_
    refine gB (by omega) ?_
    refine gB (by omega) ?_
    refine gB H1.t27 ?_
    refine cB eR ?_
    refine ifT rfl ?_
    exact l_1500 hs b
theorem lc_462 (hM : MRok) (hs : sc.1 ≤ 3072) (hi : ∀ j, i32 (sc.2 j)) (b : 0 ≤ i ∧ i + 6 ≤ sc.1) (x : XS h ls tp) (m : MS h ls tp) (K : ∀ h2 ls2 tp2, XS h2 ls2 tp2 → MS h2 ls2 tp2 → LZ (k18 0 27 (i + 6) h2)) : LZ (Law_law_462 sc k18 0 27 i h) := by
  by_cases q0 : sc.2 (i + 2) = 0
  · obtain ⟨r, h1, h2, ls2, tp2, eX, eR, H1, x2, m2⟩ := (q_cut hM (sc.2 (i + 1)) 0 (sc.2 (i + 3))) h ls tp x m
    have H := x.sh
    refine (K _ ls2 tp2 x2 m2).go ?_
    unfold Law_law_462
    rw [w32_e (z := i + 1) (by omega), w32_e (z := i + 2) (by omega)]
    refine gB (by omega) ?_
    refine gB (by omega) ?_
    refine ifT q0 ?_
    unfold Law_law_481
    rw [w32_e (z := i + 1) (by omega), w32_e (z := i + 2) (by omega), w32_e (z := i + 3) (by omega)]
    refine gB (by omega) ?_
    refine gB H.t0 ?_
    refine cB eX ?_
    refine gB (by omega) ?_
    refine gB (by omega) ?_
    refine ifT q0 ?_
    unfold Law_law_508
    rw [w32_e (z := i + 3) (by omega)]
    refine gB (by omega) ?_
    refine gB H1.t27 ?_
    refine cB eR ?_
    refine ifT rfl ?_
    exact l_1500 hs b
  · obtain ⟨r, h1, h2, ls2, tp2, eX, eR, H1, x2, m2⟩ := (q_cut hM (sc.2 (i + 1)) 1 (sc.2 (i + 3))) h ls tp x m
    have H := x.sh
    refine (K _ ls2 tp2 x2 m2).go ?_
    unfold Law_law_462
    rw [w32_e (z := i + 1) (by omega), w32_e (z := i + 2) (by omega)]
    refine gB (by omega) ?_
    refine gB (by omega) ?_
    refine ifF q0 ?_
    unfold Law_law_481
    rw [w32_e (z := i + 1) (by omega), w32_e (z := i + 2) (by omega), w32_e (z := i + 3) (by omega)]
    refine gB (by omega) ?_
    refine gB H.t0 ?_
    refine cB eX ?_
    refine gB (by omega) ?_
    refine gB (by omega) ?_
    refine ifF q0 ?_
    unfold Law_law_508
    rw [w32_e (z := i + 3) (by omega)]
    refine gB (by omega) ?_
    refine gB H1.t27 ?_
    refine cB eR ?_
    refine ifT rfl ?_
    exact l_1500 hs b
theorem lc_521 (hM : MRok) (hs : sc.1 ≤ 3072) (hi : ∀ j, i32 (sc.2 j)) (b : 0 ≤ i ∧ i + 6 ≤ sc.1) (x : XS h ls tp) (m : MS h ls tp) (K : ∀ h2 ls2 tp2, XS h2 ls2 tp2 → MS h2 ls2 tp2 → LZ (k18 0 27 (i + 6) h2)) : LZ (Law_law_521 sc k18 0 27 i h) := by
  obtain ⟨r, h1, h2, ls2, tp2, eX, eR, H1, x2, m2⟩ := (q_move hM (sc.2 (i + 1)) (sc.2 (i + 2))) h ls tp x m
  have H := x.sh
  refine (K _ ls2 tp2 x2 m2).go ?_
  unfold Law_law_521
  rw [w32_e (z := i + 1) (by omega), w32_e (z := i + 2) (by omega)]
  refine gB (by omega) ?_
  refine gB (by omega) ?_
  refine gB H.t0 ?_
  refine cB eX ?_
  refine gB (by omega) ?_
  refine gB (by omega) ?_
  refine gB H1.t27 ?_
  refine cB eR ?_
  refine ifT rfl ?_
  exact l_1500 hs b
theorem lc_554 (hM : MRok) (hs : sc.1 ≤ 3072) (hi : ∀ j, i32 (sc.2 j)) (b : 0 ≤ i ∧ i + 6 ≤ sc.1) (x : XS h ls tp) (m : MS h ls tp) (K : ∀ h2 ls2 tp2, XS h2 ls2 tp2 → MS h2 ls2 tp2 → LZ (k18 0 27 (i + 6) h2)) : LZ (Law_law_554 sc k18 0 27 i h) := by
  obtain ⟨r, h1, h2, ls2, tp2, eX, eR, H1, x2, m2⟩ := (q_mend hM (sc.2 (i + 1))) h ls tp x m
  have H := x.sh
  refine (K _ ls2 tp2 x2 m2).go ?_
  unfold Law_law_554
  rw [w32_e (z := i + 1) (by omega)]
  refine gB (by omega) ?_
  refine gB H.t0 ?_
  refine cB eX ?_
  refine gB (by omega) ?_
  refine gB H1.t27 ?_
  refine cB eR ?_
  refine ifT rfl ?_
  exact l_1500 hs b
theorem lc_577 (hM : MRok) (hs : sc.1 ≤ 3072) (hi : ∀ j, i32 (sc.2 j)) (b : 0 ≤ i ∧ i + 6 ≤ sc.1) (x : XS h ls tp) (m : MS h ls tp) (K : ∀ h2 ls2 tp2, XS h2 ls2 tp2 → MS h2 ls2 tp2 → LZ (k18 0 27 (i + 6) h2)) : LZ (Law_law_577 sc k18 0 27 i h) := by
  obtain ⟨r, h1, h2, ls2, tp2, eX, eR, H1, x2, m2⟩ := (q_prune hM (sc.2 (i + 1))) h ls tp x m
  have H := x.sh
  refine (K _ ls2 tp2 x2 m2).go ?_
  unfold Law_law_577
  rw [w32_e (z := i + 1) (by omega)]
  refine gB (by omega) ?_
  refine gB H.t0 ?_
  refine cB eX ?_
  refine gB (by omega) ?_
  refine gB H1.t27 ?_
  refine cB eR ?_
  refine ifT rfl ?_
  exact l_1500 hs b
theorem lc_600 (hs : sc.1 ≤ 3072) (hi : ∀ j, i32 (sc.2 j)) (b : 0 ≤ i ∧ i + 6 ≤ sc.1) (x : XS h ls tp) (m : MS h ls tp) (K : ∀ h2 ls2 tp2, XS h2 ls2 tp2 → MS h2 ls2 tp2 → LZ (k18 0 27 (i + 6) h2)) : LZ (Law_law_600 sc k18 0 27 i h) := by
  obtain ⟨r, h1, h2, ls2, tp2, eX, eR, H1, x2, m2⟩ := (q_drop ) h ls tp x m
  have H := x.sh
  refine (K _ ls2 tp2 x2 m2).go ?_
  unfold Law_law_600
  refine gB H.t0 ?_
  refine cB eX ?_
  refine gB H1.t27 ?_
  refine cB eR ?_
  refine ifT rfl ?_
  exact l_1500 hs b
theorem lc_613 (hs : sc.1 ≤ 3072) (hi : ∀ j, i32 (sc.2 j)) (b : 0 ≤ i ∧ i + 6 ≤ sc.1) (x : XS h ls tp) (m : MS h ls tp) (K : ∀ h2 ls2 tp2, XS h2 ls2 tp2 → MS h2 ls2 tp2 → LZ (k18 0 27 (i + 6) h2)) : LZ (Law_law_613 sc k18 0 27 i h) := by
  obtain ⟨r, h1, h2, ls2, tp2, eX, eR, H1, x2, m2⟩ := (q_clear ) h ls tp x m
  have H := x.sh
  refine (K _ ls2 tp2 x2 m2).go ?_
  unfold Law_law_613
  refine gB H.t0 ?_
  refine cB eX ?_
  refine gB H1.t27 ?_
  refine cB eR ?_
  refine ifT rfl ?_
  exact l_1500 hs b
theorem lc_626 (hs : sc.1 ≤ 3072) (hi : ∀ j, i32 (sc.2 j)) (b : 0 ≤ i ∧ i + 6 ≤ sc.1) (x : XS h ls tp) (m : MS h ls tp) (K : ∀ h2 ls2 tp2, XS h2 ls2 tp2 → MS h2 ls2 tp2 → LZ (k18 0 27 (i + 6) h2)) : LZ (Law_law_626 sc k18 0 27 i h) := by
  obtain ⟨r, h1, h2, ls2, tp2, eX, eR, H1, x2, m2⟩ := (q_line (sc.2 (i + 1)) (sc.2 (i + 2))) h ls tp x m
  obtain ⟨fX, rfl⟩ := lft_i eX
  have H := x.sh
  refine (K _ ls2 tp2 x2 m2).go ?_
  unfold Law_law_626
  rw [w32_e (z := i + 1) (by omega), w32_e (z := i + 2) (by omega)]
  refine gB (by omega) ?_
  refine gB (by omega) ?_
  refine gB H.t0 ?_
  refine cB fX ?_
  refine gB (by omega) ?_
  refine gB (by omega) ?_
  refine gB H1.t27 ?_
  refine cB eR ?_
  refine ifT rfl ?_
  exact l_1500 hs b
theorem lc_659 (hs : sc.1 ≤ 3072) (hi : ∀ j, i32 (sc.2 j)) (b : 0 ≤ i ∧ i + 6 ≤ sc.1) (x : XS h ls tp) (m : MS h ls tp) (K : ∀ h2 ls2 tp2, XS h2 ls2 tp2 → MS h2 ls2 tp2 → LZ (k18 0 27 (i + 6) h2)) : LZ (Law_law_659 sc k18 0 27 i h) := by
  by_cases q0 : sc.2 (i + 2) = 0
  · obtain ⟨r, h1, h2, ls2, tp2, eX, eR, H1, x2, m2⟩ := (q_row (sc.2 (i + 1)) 0 (sc.2 (i + 3)) (sc.2 (i + 4))) h ls tp x m
    obtain ⟨fX, rfl⟩ := lft_i eX
    have H := x.sh
    refine (K _ ls2 tp2 x2 m2).go ?_
    unfold Law_law_659
    rw [w32_e (z := i + 1) (by omega), w32_e (z := i + 2) (by omega)]
    refine gB (by omega) ?_
    refine gB (by omega) ?_
    refine ifT q0 ?_
    unfold Law_law_678
    rw [w32_e (z := i + 1) (by omega), w32_e (z := i + 2) (by omega), w32_e (z := i + 3) (by omega), w32_e (z := i + 4) (by omega)]
    refine gB (by omega) ?_
    refine gB (by omega) ?_
    refine gB H.t0 ?_
    refine cB fX ?_
    refine gB (by omega) ?_
    refine gB (by omega) ?_
    refine ifT q0 ?_
    unfold Law_law_710
    rw [w32_e (z := i + 3) (by omega), w32_e (z := i + 4) (by omega)]
    refine gB (by omega) ?_
    refine gB (by omega) ?_
    refine gB H1.t27 ?_
    refine cB eR ?_
    refine ifT rfl ?_
    exact l_1500 hs b
  · obtain ⟨r, h1, h2, ls2, tp2, eX, eR, H1, x2, m2⟩ := (q_row (sc.2 (i + 1)) 1 (sc.2 (i + 3)) (sc.2 (i + 4))) h ls tp x m
    obtain ⟨fX, rfl⟩ := lft_i eX
    have H := x.sh
    refine (K _ ls2 tp2 x2 m2).go ?_
    unfold Law_law_659
    rw [w32_e (z := i + 1) (by omega), w32_e (z := i + 2) (by omega)]
    refine gB (by omega) ?_
    refine gB (by omega) ?_
    refine ifF q0 ?_
    unfold Law_law_678
    rw [w32_e (z := i + 1) (by omega), w32_e (z := i + 2) (by omega), w32_e (z := i + 3) (by omega), w32_e (z := i + 4) (by omega)]
    refine gB (by omega) ?_
    refine gB (by omega) ?_
    refine gB H.t0 ?_
    refine cB fX ?_
    refine gB (by omega) ?_
    refine gB (by omega) ?_
    refine ifF q0 ?_
    unfold Law_law_710
    rw [w32_e (z := i + 3) (by omega), w32_e (z := i + 4) (by omega)]
    refine gB (by omega) ?_
    refine gB (by omega) ?_
    refine gB H1.t27 ?_
    refine cB eR ?_
    refine ifT rfl ?_
    exact l_1500 hs b
theorem lc_728 (hs : sc.1 ≤ 3072) (hi : ∀ j, i32 (sc.2 j)) (b : 0 ≤ i ∧ i + 6 ≤ sc.1) (x : XS h ls tp) (m : MS h ls tp) (K : ∀ h2 ls2 tp2, XS h2 ls2 tp2 → MS h2 ls2 tp2 → LZ (k18 0 27 (i + 6) h2)) : LZ (Law_law_728 sc k18 0 27 i h) := by
  obtain ⟨r, h1, h2, ls2, tp2, eX, eR, H1, x2, m2⟩ := (q_right ) h ls tp x m
  obtain ⟨fX, rfl⟩ := lft_i eX
  have H := x.sh
  refine (K _ ls2 tp2 x2 m2).go ?_
  unfold Law_law_728
  refine gB H.t0 ?_
  refine cB fX ?_
  refine gB H1.t27 ?_
  refine cB eR ?_
  refine ifT rfl ?_
  exact l_1500 hs b
theorem lc_742 (hs : sc.1 ≤ 3072) (hi : ∀ j, i32 (sc.2 j)) (b : 0 ≤ i ∧ i + 6 ≤ sc.1) (x : XS h ls tp) (m : MS h ls tp) (K : ∀ h2 ls2 tp2, XS h2 ls2 tp2 → MS h2 ls2 tp2 → LZ (k18 0 27 (i + 6) h2)) : LZ (Law_law_742 sc k18 0 27 i h) := by
  obtain ⟨r, h1, h2, ls2, tp2, eX, eR, H1, x2, m2⟩ := (q_rests (sc.2 (i + 1))) h ls tp x m
  obtain ⟨fX, rfl⟩ := lft_i eX
  have H := x.sh
  refine (K _ ls2 tp2 x2 m2).go ?_
  unfold Law_law_742
  rw [w32_e (z := i + 1) (by omega)]
  refine gB (by omega) ?_
  refine gB H.t0 ?_
  refine cB fX ?_
  refine gB (by omega) ?_
  refine gB H1.t27 ?_
  refine cB eR ?_
  refine ifT rfl ?_
  exact l_1500 hs b
theorem lc_766 (hs : sc.1 ≤ 3072) (hi : ∀ j, i32 (sc.2 j)) (b : 0 ≤ i ∧ i + 6 ≤ sc.1) (x : XS h ls tp) (m : MS h ls tp) (K : ∀ h2 ls2 tp2, XS h2 ls2 tp2 → MS h2 ls2 tp2 → LZ (k18 0 27 (i + 6) h2)) : LZ (Law_law_766 sc k18 0 27 i h) := by
  obtain ⟨r, h1, h2, ls2, tp2, eX, eR, H1, x2, m2⟩ := (q_deep (sc.2 (i + 1))) h ls tp x m
  obtain ⟨fX, rfl⟩ := lft_i eX
  have H := x.sh
  refine (K _ ls2 tp2 x2 m2).go ?_
  unfold Law_law_766
  rw [w32_e (z := i + 1) (by omega)]
  refine gB (by omega) ?_
  refine gB H.t0 ?_
  refine cB fX ?_
  refine gB (by omega) ?_
  refine gB H1.t27 ?_
  refine cB eR ?_
  refine ifT rfl ?_
  exact l_1500 hs b
theorem lc_789 (hs : sc.1 ≤ 3072) (hi : ∀ j, i32 (sc.2 j)) (b : 0 ≤ i ∧ i + 6 ≤ sc.1) (x : XS h ls tp) (m : MS h ls tp) (K : ∀ h2 ls2 tp2, XS h2 ls2 tp2 → MS h2 ls2 tp2 → LZ (k18 0 27 (i + 6) h2)) : LZ (Law_law_789 sc k18 0 27 i h) := by
  obtain ⟨r, h1, h2, ls2, tp2, eX, eR, H1, x2, m2⟩ := (q_falls (sc.2 (i + 1))) h ls tp x m
  obtain ⟨fX, rfl⟩ := lft_i eX
  have H := x.sh
  refine (K _ ls2 tp2 x2 m2).go ?_
  unfold Law_law_789
  rw [w32_e (z := i + 1) (by omega)]
  refine gB (by omega) ?_
  refine gB H.t0 ?_
  refine cB fX ?_
  refine gB (by omega) ?_
  refine gB H1.t27 ?_
  refine cB eR ?_
  refine ifT rfl ?_
  exact l_1500 hs b
theorem lc_813 (hs : sc.1 ≤ 3072) (hi : ∀ j, i32 (sc.2 j)) (b : 0 ≤ i ∧ i + 6 ≤ sc.1) (x : XS h ls tp) (m : MS h ls tp) (K : ∀ h2 ls2 tp2, XS h2 ls2 tp2 → MS h2 ls2 tp2 → LZ (k18 0 27 (i + 6) h2)) : LZ (Law_law_813 sc k18 0 27 i h) := by
  obtain ⟨r, h1, h2, ls2, tp2, eX, eR, H1, x2, m2⟩ := (q_cost (sc.2 (i + 1))) h ls tp x m
  obtain ⟨fX, rfl⟩ := lft_i eX
  have H := x.sh
  refine (K _ ls2 tp2 x2 m2).go ?_
  unfold Law_law_813
  rw [w32_e (z := i + 1) (by omega)]
  refine gB (by omega) ?_
  refine gB H.t0 ?_
  refine cB fX ?_
  refine gB (by omega) ?_
  refine gB H1.t27 ?_
  refine cB eR ?_
  refine ifT rfl ?_
  exact l_1500 hs b
theorem lc_836 (hs : sc.1 ≤ 3072) (hi : ∀ j, i32 (sc.2 j)) (b : 0 ≤ i ∧ i + 6 ≤ sc.1) (x : XS h ls tp) (m : MS h ls tp) (K : ∀ h2 ls2 tp2, XS h2 ls2 tp2 → MS h2 ls2 tp2 → LZ (k18 0 27 (i + 6) h2)) : LZ (Law_law_836 sc k18 0 27 i h) := by
  obtain ⟨r, h1, h2, ls2, tp2, eX, eR, H1, x2, m2⟩ := (q_loose (sc.2 (i + 1)) (sc.2 (i + 2))) h ls tp x m
  obtain ⟨fX, rfl⟩ := lft_i eX
  have H := x.sh
  refine (K _ ls2 tp2 x2 m2).go ?_
  unfold Law_law_836
  rw [w32_e (z := i + 1) (by omega), w32_e (z := i + 2) (by omega)]
  refine gB (by omega) ?_
  refine gB (by omega) ?_
  refine gB H.t0 ?_
  refine cB fX ?_
  refine gB (by omega) ?_
  refine gB (by omega) ?_
  refine gB H1.t27 ?_
  refine cB eR ?_
  refine ifT rfl ?_
  exact l_1500 hs b
theorem lc_869 (hs : sc.1 ≤ 3072) (hi : ∀ j, i32 (sc.2 j)) (b : 0 ≤ i ∧ i + 6 ≤ sc.1) (x : XS h ls tp) (m : MS h ls tp) (K : ∀ h2 ls2 tp2, XS h2 ls2 tp2 → MS h2 ls2 tp2 → LZ (k18 0 27 (i + 6) h2)) : LZ (Law_law_869 sc k18 0 27 i h) := by
  obtain ⟨r, h1, h2, ls2, tp2, eX, eR, H1, x2, m2⟩ := (q_shared (sc.2 (i + 1)) (sc.2 (i + 2))) h ls tp x m
  obtain ⟨fX, rfl⟩ := lft_i eX
  have H := x.sh
  refine (K _ ls2 tp2 x2 m2).go ?_
  unfold Law_law_869
  rw [w32_e (z := i + 1) (by omega), w32_e (z := i + 2) (by omega)]
  refine gB (by omega) ?_
  refine gB (by omega) ?_
  refine gB H.t0 ?_
  refine cB fX ?_
  refine gB (by omega) ?_
  refine gB (by omega) ?_
  refine gB H1.t27 ?_
  refine cB eR ?_
  refine ifT rfl ?_
  exact l_1500 hs b
theorem lc_903 (hs : sc.1 ≤ 3072) (hi : ∀ j, i32 (sc.2 j)) (b : 0 ≤ i ∧ i + 6 ≤ sc.1) (x : XS h ls tp) (m : MS h ls tp) (K : ∀ h2 ls2 tp2, XS h2 ls2 tp2 → MS h2 ls2 tp2 → LZ (k18 0 27 (i + 6) h2)) : LZ (Law_law_903 sc k18 0 27 i h) := by
  obtain ⟨r, h1, h2, ls2, tp2, eX, eR, H1, x2, m2⟩ := (q_spell (sc.2 (i + 1)) (sc.2 (i + 2))) h ls tp x m
  have H := x.sh
  refine (K _ ls2 tp2 x2 m2).go ?_
  unfold Law_law_903
  rw [w32_e (z := i + 1) (by omega), w32_e (z := i + 2) (by omega)]
  refine gB (by omega) ?_
  refine gB (by omega) ?_
  refine gB H.t0 ?_
  refine cB eX ?_
  refine gB (by omega) ?_
  refine gB (by omega) ?_
  refine gB H1.t27 ?_
  refine cB eR ?_
  refine ifT rfl ?_
  exact l_1500 hs b
theorem lc_936 (hs : sc.1 ≤ 3072) (hi : ∀ j, i32 (sc.2 j)) (b : 0 ≤ i ∧ i + 6 ≤ sc.1) (x : XS h ls tp) (m : MS h ls tp) (K : ∀ h2 ls2 tp2, XS h2 ls2 tp2 → MS h2 ls2 tp2 → LZ (k18 0 27 (i + 6) h2)) : LZ (Law_law_936 sc k18 0 27 i h) := by
  obtain ⟨r, h1, h2, ls2, tp2, eX, eR, H1, x2, m2⟩ := (q_proof (sc.2 (i + 1))) h ls tp x m
  obtain ⟨fX, rfl⟩ := lft_i eX
  have H := x.sh
  refine (K _ ls2 tp2 x2 m2).go ?_
  unfold Law_law_936
  rw [w32_e (z := i + 1) (by omega)]
  refine gB (by omega) ?_
  refine gB H.t0 ?_
  refine cB fX ?_
  refine gB (by omega) ?_
  refine gB H1.t27 ?_
  refine cB eR ?_
  refine ifT rfl ?_
  exact l_1500 hs b
theorem lc_959 (hM : MRok) (hs : sc.1 ≤ 3072) (hi : ∀ j, i32 (sc.2 j)) (b : 0 ≤ i ∧ i + 6 ≤ sc.1) (x : XS h ls tp) (m : MS h ls tp) (K : ∀ h2 ls2 tp2, XS h2 ls2 tp2 → MS h2 ls2 tp2 → LZ (k18 0 27 (i + 6) h2)) : LZ (Law_law_959 sc k18 0 27 i h) := by
  obtain ⟨r, h1, h2, ls2, tp2, eX, eR, H1, x2, m2⟩ := (s_prime hM (sc.2 (i + 1)) (sc.2 (i + 2))) h ls tp x m
  have H := x.sh
  refine (K _ ls2 tp2 x2 m2).go ?_
  unfold Law_law_959
  rw [w32_e (z := i + 1) (by omega), w32_e (z := i + 2) (by omega)]
  refine gB (by omega) ?_
  refine gB (by omega) ?_
  refine gB H.t0 ?_
  refine cB eX ?_
  refine gB (by omega) ?_
  refine gB (by omega) ?_
  refine gB H1.t27 ?_
  refine cB eR ?_
  refine ifT rfl ?_
  exact l_1500 hs b
theorem lc_992 (hs : sc.1 ≤ 3072) (hi : ∀ j, i32 (sc.2 j)) (b : 0 ≤ i ∧ i + 6 ≤ sc.1) (x : XS h ls tp) (m : MS h ls tp) (K : ∀ h2 ls2 tp2, XS h2 ls2 tp2 → MS h2 ls2 tp2 → LZ (k18 0 27 (i + 6) h2)) : LZ (Law_law_992 sc k18 0 27 i h) := by
  obtain ⟨r, h1, h2, ls2, tp2, eX, eR, H1, x2, m2⟩ := (s_often (sc.2 (i + 1)) (sc.2 (i + 2))) h ls tp x m
  obtain ⟨fX, rfl⟩ := lft_i eX
  obtain ⟨fR, rfl⟩ := lft_i eR
  have H := x.sh
  refine (K _ ls2 tp2 x2 m2).go ?_
  unfold Law_law_992
  rw [w32_e (z := i + 1) (by omega), w32_e (z := i + 2) (by omega)]
  refine gB (by omega) ?_
  refine gB (by omega) ?_
  refine gB H.t0 ?_
  refine cB fX ?_
  refine gB (by omega) ?_
  refine gB (by omega) ?_
  refine gB H1.t27 ?_
  refine cB fR ?_
  refine ifT rfl ?_
  exact l_1500 hs b
theorem lc_1025 (hM : MRok) (hs : sc.1 ≤ 3072) (hi : ∀ j, i32 (sc.2 j)) (b : 0 ≤ i ∧ i + 6 ≤ sc.1) (x : XS h ls tp) (m : MS h ls tp) (K : ∀ h2 ls2 tp2, XS h2 ls2 tp2 → MS h2 ls2 tp2 → LZ (k18 0 27 (i + 6) h2)) : LZ (Law_law_1025 sc k18 0 27 i h) := by
  obtain ⟨r, h1, h2, ls2, tp2, eX, eR, H1, x2, m2⟩ := (q_needs hM (sc.2 (i + 1)) (sc.2 (i + 2))) h ls tp x m
  have H := x.sh
  refine (K _ ls2 tp2 x2 m2).go ?_
  unfold Law_law_1025
  rw [w32_e (z := i + 1) (by omega), w32_e (z := i + 2) (by omega)]
  refine gB (by omega) ?_
  refine gB (by omega) ?_
  refine gB H.t0 ?_
  refine cB eX ?_
  refine gB (by omega) ?_
  refine gB (by omega) ?_
  refine gB H1.t27 ?_
  refine cB eR ?_
  refine ifT rfl ?_
  exact l_1500 hs b
theorem lc_1058 (hM : MRok) (hs : sc.1 ≤ 3072) (hi : ∀ j, i32 (sc.2 j)) (b : 0 ≤ i ∧ i + 6 ≤ sc.1) (x : XS h ls tp) (m : MS h ls tp) (K : ∀ h2 ls2 tp2, XS h2 ls2 tp2 → MS h2 ls2 tp2 → LZ (k18 0 27 (i + 6) h2)) : LZ (Law_law_1058 sc k18 0 27 i h) := by
  obtain ⟨r, h1, h2, ls2, tp2, eX, eR, H1, x2, m2⟩ := (q_fewest hM (sc.2 (i + 1))) h ls tp x m
  have H := x.sh
  refine (K _ ls2 tp2 x2 m2).go ?_
  unfold Law_law_1058
  rw [w32_e (z := i + 1) (by omega)]
  refine gB (by omega) ?_
  refine gB H.t0 ?_
  refine cB eX ?_
  refine gB (by omega) ?_
  refine gB H1.t27 ?_
  refine cB eR ?_
  refine ifT rfl ?_
  exact l_1500 hs b
theorem lc_1081 (hM : MRok) (hs : sc.1 ≤ 3072) (hi : ∀ j, i32 (sc.2 j)) (b : 0 ≤ i ∧ i + 6 ≤ sc.1) (x : XS h ls tp) (m : MS h ls tp) (K : ∀ h2 ls2 tp2, XS h2 ls2 tp2 → MS h2 ls2 tp2 → LZ (k18 0 27 (i + 6) h2)) : LZ (Law_law_1081 sc k18 0 27 i h) := by
  obtain ⟨r, h1, h2, ls2, tp2, eX, eR, H1, x2, m2⟩ := (s_next hM (n := sc.2 (i + 1)) (hi _)) h ls tp x m
  obtain ⟨fX, rfl⟩ := lft_i eX
  obtain ⟨fR, rfl⟩ := lft_i eR
  have H := x.sh
  refine (K _ ls2 tp2 x2 m2).go ?_
  unfold Law_law_1081
  rw [w32_e (z := i + 1) (by omega)]
  refine gB (by omega) ?_
  refine gB H.t0 ?_
  refine cB fX ?_
  refine gB (by omega) ?_
  refine gB H1.t27 ?_
  refine cB fR ?_
  refine ifT rfl ?_
  exact l_1500 hs b
theorem lc_1104 (hM : MRok) (hs : sc.1 ≤ 3072) (hi : ∀ j, i32 (sc.2 j)) (b : 0 ≤ i ∧ i + 6 ≤ sc.1) (x : XS h ls tp) (m : MS h ls tp) (K : ∀ h2 ls2 tp2, XS h2 ls2 tp2 → MS h2 ls2 tp2 → LZ (k18 0 27 (i + 6) h2)) : LZ (Law_law_1104 sc k18 0 27 i h) := by
  obtain ⟨r, h1, h2, ls2, tp2, eX, eR, H1, x2, m2⟩ := (s_smooth hM (sc.2 (i + 1)) (sc.2 (i + 2))) h ls tp x m
  have H := x.sh
  refine (K _ ls2 tp2 x2 m2).go ?_
  unfold Law_law_1104
  rw [w32_e (z := i + 1) (by omega), w32_e (z := i + 2) (by omega)]
  refine gB (by omega) ?_
  refine gB (by omega) ?_
  refine gB H.t0 ?_
  refine cB eX ?_
  refine gB (by omega) ?_
  refine gB (by omega) ?_
  refine gB H1.t27 ?_
  refine cB eR ?_
  refine ifT rfl ?_
  exact l_1500 hs b
theorem lc_1137 (hM : MRok) (hs : sc.1 ≤ 3072) (hi : ∀ j, i32 (sc.2 j)) (b : 0 ≤ i ∧ i + 6 ≤ sc.1) (x : XS h ls tp) (m : MS h ls tp) (K : ∀ h2 ls2 tp2, XS h2 ls2 tp2 → MS h2 ls2 tp2 → LZ (k18 0 27 (i + 6) h2)) : LZ (Law_law_1137 sc k18 0 27 i h) := by
  obtain ⟨r, h1, h2, ls2, tp2, eX, eR, H1, x2, m2⟩ := (s_bound hM (sc.2 (i + 1))) h ls tp x m
  have H := x.sh
  refine (K _ ls2 tp2 x2 m2).go ?_
  unfold Law_law_1137
  rw [w32_e (z := i + 1) (by omega)]
  refine gB (by omega) ?_
  refine gB H.t0 ?_
  refine cB eX ?_
  refine gB (by omega) ?_
  refine gB H1.t27 ?_
  refine cB eR ?_
  refine ifT rfl ?_
  exact l_1500 hs b
theorem lc_1160 (hs : sc.1 ≤ 3072) (hi : ∀ j, i32 (sc.2 j)) (b : 0 ≤ i ∧ i + 6 ≤ sc.1) (x : XS h ls tp) (m : MS h ls tp) (K : ∀ h2 ls2 tp2, XS h2 ls2 tp2 → MS h2 ls2 tp2 → LZ (k18 0 27 (i + 6) h2)) : LZ (Law_law_1160 sc k18 0 27 i h) := by
  obtain ⟨r, h1, h2, ls2, tp2, eX, eR, H1, x2, m2⟩ := (s_chase (sc.2 (i + 1)) (sc.2 (i + 2))) h ls tp x m
  obtain ⟨fX, rfl⟩ := lft_i eX
  obtain ⟨fR, rfl⟩ := lft_i eR
  have H := x.sh
  refine (K _ ls2 tp2 x2 m2).go ?_
  unfold Law_law_1160
  rw [w32_e (z := i + 1) (by omega), w32_e (z := i + 2) (by omega)]
  refine gB (by omega) ?_
  refine gB (by omega) ?_
  refine gB H.t0 ?_
  refine cB fX ?_
  refine gB (by omega) ?_
  refine gB (by omega) ?_
  refine gB H1.t27 ?_
  refine cB fR ?_
  refine ifT rfl ?_
  exact l_1500 hs b
theorem lc_1193 (hM : MRok) (hs : sc.1 ≤ 3072) (hi : ∀ j, i32 (sc.2 j)) (b : 0 ≤ i ∧ i + 6 ≤ sc.1) (x : XS h ls tp) (m : MS h ls tp) (K : ∀ h2 ls2 tp2, XS h2 ls2 tp2 → MS h2 ls2 tp2 → LZ (k18 0 27 (i + 6) h2)) : LZ (Law_law_1193 sc k18 0 27 i h) := by
  obtain ⟨r, h1, h2, ls2, tp2, eX, eR, H1, x2, m2⟩ := (s_primes hM (a := sc.2 (i + 1)) (b := sc.2 (i + 2)) (hi _) (hi _)) h ls tp x m
  obtain ⟨fX, rfl⟩ := lft_i eX
  obtain ⟨fR, rfl⟩ := lft_i eR
  have H := x.sh
  refine (K _ ls2 tp2 x2 m2).go ?_
  unfold Law_law_1193
  rw [w32_e (z := i + 1) (by omega), w32_e (z := i + 2) (by omega)]
  refine gB (by omega) ?_
  refine gB (by omega) ?_
  refine gB H.t0 ?_
  refine cB fX ?_
  refine gB (by omega) ?_
  refine gB (by omega) ?_
  refine gB H1.t27 ?_
  refine cB fR ?_
  refine ifT rfl ?_
  exact l_1500 hs b
theorem lc_1226 (hs : sc.1 ≤ 3072) (hi : ∀ j, i32 (sc.2 j)) (b : 0 ≤ i ∧ i + 6 ≤ sc.1) (x : XS h ls tp) (m : MS h ls tp) (K : ∀ h2 ls2 tp2, XS h2 ls2 tp2 → MS h2 ls2 tp2 → LZ (k18 0 27 (i + 6) h2)) : LZ (Law_law_1226 sc k18 0 27 i h) := by
  obtain ⟨r, h1, h2, ls2, tp2, eX, eR, H1, x2, m2⟩ := (s_passes (sc.2 (i + 1)) (sc.2 (i + 2))) h ls tp x m
  obtain ⟨fX, rfl⟩ := lft_i eX
  obtain ⟨fR, rfl⟩ := lft_i eR
  have H := x.sh
  refine (K _ ls2 tp2 x2 m2).go ?_
  unfold Law_law_1226
  rw [w32_e (z := i + 1) (by omega), w32_e (z := i + 2) (by omega)]
  refine gB (by omega) ?_
  refine gB (by omega) ?_
  refine gB H.t0 ?_
  refine cB fX ?_
  refine gB (by omega) ?_
  refine gB (by omega) ?_
  refine gB H1.t27 ?_
  refine cB fR ?_
  refine ifT rfl ?_
  exact l_1500 hs b
theorem lc_1259 (hs : sc.1 ≤ 3072) (hi : ∀ j, i32 (sc.2 j)) (b : 0 ≤ i ∧ i + 6 ≤ sc.1) (x : XS h ls tp) (m : MS h ls tp) (K : ∀ h2 ls2 tp2, XS h2 ls2 tp2 → MS h2 ls2 tp2 → LZ (k18 0 27 (i + 6) h2)) : LZ (Law_law_1259 sc k18 0 27 i h) := by
  obtain ⟨r, h1, h2, ls2, tp2, eX, eR, H1, x2, m2⟩ := (s_fools (sc.2 (i + 1)) (sc.2 (i + 2))) h ls tp x m
  obtain ⟨fX, rfl⟩ := lft_i eX
  obtain ⟨fR, rfl⟩ := lft_i eR
  have H := x.sh
  refine (K _ ls2 tp2 x2 m2).go ?_
  unfold Law_law_1259
  rw [w32_e (z := i + 1) (by omega), w32_e (z := i + 2) (by omega)]
  refine gB (by omega) ?_
  refine gB (by omega) ?_
  refine gB H.t0 ?_
  refine cB fX ?_
  refine gB (by omega) ?_
  refine gB (by omega) ?_
  refine gB H1.t27 ?_
  refine cB fR ?_
  refine ifT rfl ?_
  exact l_1500 hs b
theorem lc_1292 (hs : sc.1 ≤ 3072) (hi : ∀ j, i32 (sc.2 j)) (b : 0 ≤ i ∧ i + 6 ≤ sc.1) (x : XS h ls tp) (m : MS h ls tp) (K : ∀ h2 ls2 tp2, XS h2 ls2 tp2 → MS h2 ls2 tp2 → LZ (k18 0 27 (i + 6) h2)) : LZ (Law_law_1292 sc k18 0 27 i h) := by
  obtain ⟨r, h1, h2, ls2, tp2, eX, eR, H1, x2, m2⟩ := (s_power (a := sc.2 (i + 1)) (k := sc.2 (i + 2)) (m := sc.2 (i + 3)) (hi _) (hi _) (hi _)) h ls tp x m
  obtain ⟨fX, rfl⟩ := lft_i eX
  obtain ⟨fR, rfl⟩ := lft_i eR
  have H := x.sh
  refine (K _ ls2 tp2 x2 m2).go ?_
  unfold Law_law_1292
  rw [w32_e (z := i + 1) (by omega), w32_e (z := i + 2) (by omega), w32_e (z := i + 3) (by omega)]
  refine gB (by omega) ?_
  refine gB (by omega) ?_
  refine gB (by omega) ?_
  refine gB H.t0 ?_
  refine cB fX ?_
  refine gB (by omega) ?_
  refine gB (by omega) ?_
  refine gB (by omega) ?_
  refine gB H1.t27 ?_
  refine cB fR ?_
  refine ifT rfl ?_
  exact l_1500 hs b
theorem lc_1335 (hM : MRok) (hs : sc.1 ≤ 3072) (hi : ∀ j, i32 (sc.2 j)) (b : 0 ≤ i ∧ i + 6 ≤ sc.1) (x : XS h ls tp) (m : MS h ls tp) (K : ∀ h2 ls2 tp2, XS h2 ls2 tp2 → MS h2 ls2 tp2 → LZ (k18 0 27 (i + 6) h2)) : LZ (Law_law_1335 sc k18 0 27 i h) := by
  obtain ⟨r, h1, h2, ls2, tp2, eX, eR, H1, x2, m2⟩ := (s_order hM (a := sc.2 (i + 1)) (m := sc.2 (i + 2)) (hi _) (hi _)) h ls tp x m
  obtain ⟨fR, rfl⟩ := lft_i eR
  have H := x.sh
  refine (K _ ls2 tp2 x2 m2).go ?_
  unfold Law_law_1335
  rw [w32_e (z := i + 1) (by omega), w32_e (z := i + 2) (by omega)]
  refine gB (by omega) ?_
  refine gB (by omega) ?_
  refine gB H.t0 ?_
  refine cB eX ?_
  refine gB (by omega) ?_
  refine gB (by omega) ?_
  refine gB H1.t27 ?_
  refine cB fR ?_
  refine ifT rfl ?_
  exact l_1500 hs b
theorem lc_1368 (hs : sc.1 ≤ 3072) (hi : ∀ j, i32 (sc.2 j)) (b : 0 ≤ i ∧ i + 6 ≤ sc.1) (x : XS h ls tp) (m : MS h ls tp) (K : ∀ h2 ls2 tp2, XS h2 ls2 tp2 → MS h2 ls2 tp2 → LZ (k18 0 27 (i + 6) h2)) : LZ (Law_law_1368 sc k18 0 27 i h) := by
  obtain ⟨r, h1, h2, ls2, tp2, eX, eR, H1, x2, m2⟩ := (s_jacobi (a := sc.2 (i + 1)) (m := sc.2 (i + 2)) (hi _) (hi _)) h ls tp x m
  obtain ⟨fX, rfl⟩ := lft_i eX
  obtain ⟨fR, rfl⟩ := lft_i eR
  have H := x.sh
  refine (K _ ls2 tp2 x2 m2).go ?_
  unfold Law_law_1368
  rw [w32_e (z := i + 1) (by omega), w32_e (z := i + 2) (by omega)]
  refine gB (by omega) ?_
  refine gB (by omega) ?_
  refine gB H.t0 ?_
  refine cB fX ?_
  refine gB (by omega) ?_
  refine gB (by omega) ?_
  refine gB H1.t27 ?_
  refine cB fR ?_
  refine ifT rfl ?_
  exact l_1500 hs b
theorem lc_1401 (hs : sc.1 ≤ 3072) (hi : ∀ j, i32 (sc.2 j)) (b : 0 ≤ i ∧ i + 6 ≤ sc.1) (x : XS h ls tp) (m : MS h ls tp) (K : ∀ h2 ls2 tp2, XS h2 ls2 tp2 → MS h2 ls2 tp2 → LZ (k18 0 27 (i + 6) h2)) : LZ (Law_law_1401 sc k18 0 27 i h) := by
  obtain ⟨r, h1, h2, ls2, tp2, eX, eR, H1, x2, m2⟩ := (s_u (p := sc.2 (i + 1)) (q := sc.2 (i + 2)) (k := sc.2 (i + 3)) (m := sc.2 (i + 4)) (hi _)) h ls tp x m
  obtain ⟨fX, rfl⟩ := lft_i eX
  have H := x.sh
  refine (K _ ls2 tp2 x2 m2).go ?_
  unfold Law_law_1401
  rw [w32_e (z := i + 1) (by omega), w32_e (z := i + 2) (by omega), w32_e (z := i + 3) (by omega), w32_e (z := i + 4) (by omega)]
  refine gB (by omega) ?_
  refine gB (by omega) ?_
  refine gB (by omega) ?_
  refine gB (by omega) ?_
  refine gB H.t0 ?_
  refine cB fX ?_
  refine gB (by omega) ?_
  refine gB (by omega) ?_
  refine gB (by omega) ?_
  refine gB (by omega) ?_
  refine gB H1.t27 ?_
  refine cB eR ?_
  refine ifT rfl ?_
  exact l_1500 hs b
theorem lc_1454 (hM : MRok) (hs : sc.1 ≤ 3072) (hi : ∀ j, i32 (sc.2 j)) (b : 0 ≤ i ∧ i + 6 ≤ sc.1) (x : XS h ls tp) (m : MS h ls tp) (K : ∀ h2 ls2 tp2, XS h2 ls2 tp2 → MS h2 ls2 tp2 → LZ (k18 0 27 (i + 6) h2)) : LZ (Law_law_1454 sc k18 0 27 i h) := by
  obtain ⟨r, h1, h2, ls2, tp2, eX, eR, H1, x2, m2⟩ := (s_units hM (sc.2 (i + 1))) h ls tp x m
  have H := x.sh
  refine (K _ ls2 tp2 x2 m2).go ?_
  unfold Law_law_1454
  rw [w32_e (z := i + 1) (by omega)]
  refine gB (by omega) ?_
  refine gB H.t0 ?_
  refine cB eX ?_
  refine gB (by omega) ?_
  refine gB H1.t27 ?_
  refine cB eR ?_
  refine ifT rfl ?_
  exact l_1500 hs b
theorem lc_1477 (hs : sc.1 ≤ 3072) (hi : ∀ j, i32 (sc.2 j)) (b : 0 ≤ i ∧ i + 6 ≤ sc.1) (x : XS h ls tp) (m : MS h ls tp) (K : ∀ h2 ls2 tp2, XS h2 ls2 tp2 → MS h2 ls2 tp2 → LZ (k18 0 27 (i + 6) h2)) : LZ (Law_law_1477 sc k18 0 27 i h) := by
  obtain ⟨r, h1, h2, ls2, tp2, eX, eR, H1, x2, m2⟩ := (q_count (sc.2 (i + 1))) h ls tp x m
  obtain ⟨fX, rfl⟩ := lft_i eX
  have H := x.sh
  refine (K _ ls2 tp2 x2 m2).go ?_
  unfold Law_law_1477
  rw [w32_e (z := i + 1) (by omega)]
  refine gB (by omega) ?_
  refine gB H.t0 ?_
  refine cB fX ?_
  refine gB (by omega) ?_
  refine gB H1.t27 ?_
  refine cB eR ?_
  refine ifT rfl ?_
  exact l_1500 hs b
end LAW
theorem law_loop (hM : MRok) (hP : PRok) {sc : AS} (hs : 0 ≤ sc.1 ∧ sc.1 ≤ 3072) (hi : ∀ j, i32 (sc.2 j)) : ∀ (n f : Nat) (i : Int) (h : AH) (ls : List LN) (tp : List Int), 0 ≤ i → sc.1 + 6 ≤ i + n → n < f → XS h ls tp → MS h ls tp → LZ (Law_law_18 sc f 0 27 i h) := by
  intro n
  induction n using Nat.strongRecOn with
  | ind n ih =>
  intro f i h ls tp i0 hn hf x m
  obtain ⟨f, rfl, -⟩ := fu_pos (show 0 < f by omega)
  by_cases e : sc.1 - 6 < i
  · refine ⟨h, ?_, x.sh⟩
    unfold Law_law_18
    rw [w32_e (z := sc.1 - 6) (by omega)]
    exact ifT e rfl
  have K : ∀ h2 ls2 tp2, XS h2 ls2 tp2 → MS h2 ls2 tp2 → LZ (Law_law_18 sc f 0 27 (i + 6) h2) := fun h2 ls2 tp2 x2 m2 => ih (n - 6) (by omega) f (i + 6) h2 ls2 tp2 (by omega) (by omega) (by omega) x2 m2
  have b : 0 ≤ i ∧ i + 6 ≤ sc.1 := by omega
  unfold Law_law_18
  rw [w32_e (z := sc.1 - 6) (by omega), if_neg e, gd_y (show 0 ≤ i ∧ i < sc.1 by omega), Option.bind_some]
  generalize andI (sc.2 i) 63 = u
  by_cases c0 : u = 0
  · rw [if_pos c0]; exact lc_208 hM hP hs.2 hi b x m K
  rw [if_neg c0]
  by_cases c1 : u = 1
  · rw [if_pos c1]; exact lc_241 hs.2 hi b x m K
  rw [if_neg c1]
  by_cases c2 : u = 2
  · rw [if_pos c2]; exact lc_304 hs.2 hi b x m K
  rw [if_neg c2]
  by_cases c3 : u = 3
  · rw [if_pos c3]; exact lc_327 hM hs.2 hi b x m K
  rw [if_neg c3]
  by_cases c4 : u = 4
  · rw [if_pos c4]; exact lc_340 hM hs.2 hi b x m K
  rw [if_neg c4]
  by_cases c5 : u = 5
  · rw [if_pos c5]; exact lc_383 hM hs.2 hi b x m K
  rw [if_neg c5]
  by_cases c6 : u = 6
  · rw [if_pos c6]; exact lc_462 hM hs.2 hi b x m K
  rw [if_neg c6]
  by_cases c7 : u = 7
  · rw [if_pos c7]; exact lc_521 hM hs.2 hi b x m K
  rw [if_neg c7]
  by_cases c8 : u = 8
  · rw [if_pos c8]; exact lc_554 hM hs.2 hi b x m K
  rw [if_neg c8]
  by_cases c9 : u = 9
  · rw [if_pos c9]; exact lc_577 hM hs.2 hi b x m K
  rw [if_neg c9]
  by_cases c10 : u = 10
  · rw [if_pos c10]; exact lc_600 hs.2 hi b x m K
  rw [if_neg c10]
  by_cases c11 : u = 11
  · rw [if_pos c11]; exact lc_613 hs.2 hi b x m K
  rw [if_neg c11]
  by_cases c12 : u = 12
  · rw [if_pos c12]; exact lc_626 hs.2 hi b x m K
  rw [if_neg c12]
  by_cases c13 : u = 13
  · rw [if_pos c13]; exact lc_659 hs.2 hi b x m K
  rw [if_neg c13]
  by_cases c14 : u = 14
  · rw [if_pos c14]; exact lc_728 hs.2 hi b x m K
  rw [if_neg c14]
  by_cases c15 : u = 15
  · rw [if_pos c15]; exact lc_742 hs.2 hi b x m K
  rw [if_neg c15]
  by_cases c16 : u = 16
  · rw [if_pos c16]; exact lc_766 hs.2 hi b x m K
  rw [if_neg c16]
  by_cases c17 : u = 17
  · rw [if_pos c17]; exact lc_789 hs.2 hi b x m K
  rw [if_neg c17]
  by_cases c18 : u = 18
  · rw [if_pos c18]; exact lc_813 hs.2 hi b x m K
  rw [if_neg c18]
  by_cases c19 : u = 19
  · rw [if_pos c19]; exact lc_836 hs.2 hi b x m K
  rw [if_neg c19]
  by_cases c20 : u = 20
  · rw [if_pos c20]; exact lc_869 hs.2 hi b x m K
  rw [if_neg c20]
  by_cases c21 : u = 21
  · rw [if_pos c21]; exact lc_903 hs.2 hi b x m K
  rw [if_neg c21]
  by_cases c22 : u = 22
  · rw [if_pos c22]; exact lc_936 hs.2 hi b x m K
  rw [if_neg c22]
  by_cases c23 : u = 23
  · rw [if_pos c23]; exact lc_959 hM hs.2 hi b x m K
  rw [if_neg c23]
  by_cases c24 : u = 24
  · rw [if_pos c24]; exact lc_992 hs.2 hi b x m K
  rw [if_neg c24]
  by_cases c25 : u = 25
  · rw [if_pos c25]; exact lc_1025 hM hs.2 hi b x m K
  rw [if_neg c25]
  by_cases c26 : u = 26
  · rw [if_pos c26]; exact lc_1058 hM hs.2 hi b x m K
  rw [if_neg c26]
  by_cases c27 : u = 27
  · rw [if_pos c27]; exact lc_1081 hM hs.2 hi b x m K
  rw [if_neg c27]
  by_cases c28 : u = 28
  · rw [if_pos c28]; exact lc_1104 hM hs.2 hi b x m K
  rw [if_neg c28]
  by_cases c29 : u = 29
  · rw [if_pos c29]; exact lc_1137 hM hs.2 hi b x m K
  rw [if_neg c29]
  by_cases c30 : u = 30
  · rw [if_pos c30]; exact lc_1160 hs.2 hi b x m K
  rw [if_neg c30]
  by_cases c31 : u = 31
  · rw [if_pos c31]; exact lc_1193 hM hs.2 hi b x m K
  rw [if_neg c31]
  by_cases c32 : u = 32
  · rw [if_pos c32]; exact lc_1226 hs.2 hi b x m K
  rw [if_neg c32]
  by_cases c33 : u = 33
  · rw [if_pos c33]; exact lc_1259 hs.2 hi b x m K
  rw [if_neg c33]
  by_cases c34 : u = 34
  · rw [if_pos c34]; exact lc_1292 hs.2 hi b x m K
  rw [if_neg c34]
  by_cases c35 : u = 35
  · rw [if_pos c35]; exact lc_1335 hM hs.2 hi b x m K
  rw [if_neg c35]
  by_cases c36 : u = 36
  · rw [if_pos c36]; exact lc_1368 hs.2 hi b x m K
  rw [if_neg c36]
  by_cases c37 : u = 37
  · rw [if_pos c37]; exact lc_1401 hs.2 hi b x m K
  rw [if_neg c37]
  by_cases c38 : u = 38
  · rw [if_pos c38]; exact lc_1454 hM hs.2 hi b x m K
  rw [if_neg c38]
  by_cases c39 : u = 39
  · rw [if_pos c39]; exact lc_1477 hs.2 hi b x m K
  rw [if_neg c39]
  exact (K h ls tp x m).go (l_1500 hs.2 b)
