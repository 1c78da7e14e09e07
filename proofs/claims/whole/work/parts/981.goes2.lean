/-! the reference goes on; words and numbers that it needs -/
section GO2
variable {tp : List Int}
theorem rtk_1 {T : T3} (w : WTp tp T) : rtk tp T = 1 ↔ T.1 = 1 := by
  unfold rtk
  by_cases a : T.1 = 0
  · rw [if_pos a]; omega
  rw [if_neg a]
  by_cases b : T.1 = 1
  · rw [if_pos b]; omega
  rw [if_neg b]
  by_cases c : T.1 = 2
  · rw [if_pos c]; split <;> omega
  · rw [if_neg c]; split <;> omega
theorem rtk_2 {T : T3} : rtk tp T = 2 ↔ T.1 = 2 ∧ T.2.2 - T.2.1 ≤ 10 := by
  unfold rtk
  by_cases a : T.1 = 0
  · rw [if_pos a]; omega
  rw [if_neg a]
  by_cases b : T.1 = 1
  · rw [if_pos b]; omega
  rw [if_neg b]
  by_cases c : T.1 = 2
  · rw [if_pos c]; split <;> omega
  · rw [if_neg c]; split <;> omega
theorem rtk_3 {T : T3} (w : WTp tp T) : rtk tp T = 3 ↔ T.1 = 3 ∧ tA tp T.2.1 = 59 := by
  have w7 := w.2.2.2.2.2.2
  unfold rtk
  by_cases a : T.1 = 0
  · rw [if_pos a]; omega
  rw [if_neg a]
  by_cases b : T.1 = 1
  · rw [if_pos b]; omega
  rw [if_neg b]
  by_cases c : T.1 = 2
  · rw [if_pos c]; split <;> omega
  · rw [if_neg c]; split <;> omega
theorem rtk_0 {T : T3} : rtk tp T = 0 ↔ T.1 = 0 := by
  unfold rtk
  by_cases a : T.1 = 0
  · rw [if_pos a]; omega
  rw [if_neg a]
  by_cases b : T.1 = 1
  · rw [if_pos b]; omega
  rw [if_neg b]
  by_cases c : T.1 = 2
  · rw [if_pos c]; split <;> omega
  · rw [if_neg c]; split <;> omega
theorem ruF_1 {k : Int} {s : Nat} (h : s < tp.length) (c : kd (tA tp s) = k) : ruF tp k (tp.length - s) s = ruS tp k (s + 1) := by
  unfold ruS
  rw [show tp.length - s = (tp.length - (s + 1)) + 1 by omega]
  exact if_pos c
theorem s_goesOn {h : AH} (H : Sh h) (t : TP h 27 24 48 tp) {k : Int} (c25 : hCe h 27 25 = k) {e : Nat} (c29 : hCe h 27 29 = (e : Int)) (he : e ≤ tp.length) {w : Int} (c30 : hCe h 27 30 = w) : ∃ h', R_goesOn 27 h = some h' ∧ RQt h' tp (adv tp (jn k) e) w ∧ Fr GKr h h' := by
  have t4 := t.2.1
  obtain ⟨h1, e1, d29, d26, d30, F1⟩ := g27 (e := e) (b := jn k) (tp.length - e) FU e h (by omega) (fu_big (by omega)) H t c29
  have d29 : hCe h1 27 29 = (skS tp e : Int) := d29
  have d26 : hCe h1 27 26 = (skS tp e : Int) := d26
  have d30 := d30.trans c30
  have H1 := H.g F1
  have t1 := t.g F1
  have sb := skS_bd he
  have wt := adv_wt (tp := tp) (j := jn k) he
  have pre : ∀ {r}, R_goesOn_90 27 (b2i (jn k && decide (skS tp e = e))) h1 = r → R_goesOn 27 h = r := by
    rintro r rfl
    refine Eq.trans ?_ e1
    unfold R_goesOn
    refine gB H.t27 ?_
    rw [c25]
    by_cases k1 : k = 1
    · refine ifT k1 ?_
      refine gB H.t27 ?_
      rw [c29, show jn k = true from decide_eq_true (Or.inl k1)]
      rfl
    refine ifF k1 ?_
    refine gB H.t27 ?_
    by_cases k2 : k = 2
    · refine ifT k2 ?_
      refine gB H.t27 ?_
      rw [c29, show jn k = true from decide_eq_true (Or.inr k2)]
      rfl
    refine ifF k2 ?_
    refine gB H.t27 ?_
    rw [c29, show jn k = false from decide_eq_false (by omega)]
    rfl
  have jb : (jn k && decide (skS tp e = e)) = true ↔ (jn k = true ∧ skS tp e = e) := by rw [Bool.and_eq_true, decide_eq_true_eq]
  generalize hj : (jn k && decide (skS tp e = e)) = j at *
  have F2 : Fr GKr h1 (hSet h1 27 27 10) := Fr.set ⟨rfl, by omega, by omega⟩
  have H2 := H1.g F2
  have t2 := t1.g F2
  have f29 : hCe (hSet h1 27 27 10) 27 29 = (skS tp e : Int) := (cN (by omega)).trans d29
  have f26 : hCe (hSet h1 27 27 10) 27 26 = (skS tp e : Int) := (cN (by omega)).trans d26
  have f30 : hCe (hSet h1 27 27 10) 27 30 = w := (cN (by omega)).trans d30
  have f27 : hCe (hSet h1 27 27 10) 27 27 = 10 := cS _ _ _ _
  have pre2 : ∀ {r}, (if skS tp e = tp.length then some (hSet (hSet h1 27 27 10) 27 25 0) else if kd (tA tp (skS tp e)) = 1 then R_goesOn_127 FU 27 (b2i j) (hSet h1 27 27 10) else if kd (tA tp (skS tp e)) = 2 then R_goesOn_210 FU 27 (b2i j) (hSet (hSet h1 27 27 10) 27 28 0) else if tA tp (skS tp e) = 59 then some (hSet (hSet (hSet h1 27 27 10) 27 25 3) 27 29 ((skS tp e + 1 : Nat) : Int)) else some (hSet (hSet (hSet h1 27 27 10) 27 25 4) 27 29 ((skS tp e + 1 : Nat) : Int))) = r → R_goesOn 27 h = r := by
    rintro r rfl
    refine pre ?_
    unfold R_goesOn_90
    refine gB H1.t27 ?_
    refine gB H2.t27 ?_
    rw [f26]
    refine gB H2.t27 ?_
    rw [t2.1]
    by_cases a : skS tp e = tp.length
    · rw [if_pos a]
      refine ifT (by omega) ?_
      exact gB H2.t27 rfl
    rw [if_neg a]
    refine ifF (by omega) ?_
    refine gB H2.t27 ?_
    refine gB H2.t27 ?_
    refine cB (s_isLetter H2 t2) ?_
    by_cases b : kd (tA tp (skS tp e)) = 1
    · rw [if_pos b, decide_eq_true ⟨by omega, b⟩]
      exact ifF one_ne rfl
    rw [if_neg b, decide_eq_false (fun z => b z.2)]
    refine ifT rfl ?_
    refine gB H2.t27 ?_
    refine gB H2.t27 ?_
    refine cB (s_isDigit H2 t2) ?_
    by_cases c : kd (tA tp (skS tp e)) = 2
    · rw [if_pos c, decide_eq_true ⟨by omega, c⟩]
      refine ifF one_ne ?_
      exact gB H2.t27 rfl
    rw [if_neg c, decide_eq_false (fun z => c z.2)]
    refine ifT rfl ?_
    refine gB H2.t27 ?_
    rw [H2.p27_23]
    refine gB H2.t27 ?_
    refine gB ⟨H2.t48, by omega, by rw [H2.l48]; omega⟩ ?_
    rw [t2.at (by omega)]
    by_cases d : tA tp (skS tp e) = 59
    · refine ifT d ?_
      rw [if_pos d]
      refine gB H2.t27 ?_
      refine gB H2.t27 ?_
      rw [cN (b := 27) (j := 29) (by omega), f29, w32_e (z := (skS tp e : Int) + 1) (by omega)]
      exact gB H2.t27 rfl
    · refine ifF d ?_
      rw [if_neg d]
      refine gB H2.t27 ?_
      refine gB H2.t27 ?_
      rw [cN (b := 27) (j := 29) (by omega), f29, w32_e (z := (skS tp e : Int) + 1) (by omega)]
      exact gB H2.t27 rfl
  generalize hSet h1 27 27 10 = h2 at *
  by_cases a : skS tp e = tp.length
  · have ad : adv tp (jn k) e = (0, skS tp e, skS tp e) := if_pos (by omega)
    have F3 : Fr GKr h2 (hSet h2 27 25 0) := Fr.set ⟨rfl, by omega, by omega⟩
    rw [ad] at wt ⊢
    exact ⟨_, pre2 (if_pos a), ⟨H2.g F3, t2.g F3, cS _ _ _ _, (cN (by omega)).trans f26, (cN (by omega)).trans f29, (fun z => by cases z), (fun z => by cases z), (cN (by omega)).trans f30, wt⟩, F1.tr (F2.tr F3)⟩
  rw [if_neg a] at pre2
  have ad : adv tp (jn k) e = (if jn k = true ∧ skS tp e = e then 3 else kd (tA tp (skS tp e)), skS tp e, if kd (tA tp (skS tp e)) = 3 then skS tp e + 1 else ruS tp (kd (tA tp (skS tp e))) (skS tp e + 1)) := if_neg (by omega)
  have ej : (if jn k = true ∧ skS tp e = e then (3 : Int) else kd (tA tp (skS tp e))) = if j = true then 3 else kd (tA tp (skS tp e)) := by
    by_cases z : jn k = true ∧ skS tp e = e
    · rw [if_pos z, if_pos (jb.mpr z)]
    · rw [if_neg z, if_neg (fun y => z (jb.mp y))]
  rw [ej] at ad
  by_cases b : kd (tA tp (skS tp e)) = 1
  · rw [if_pos b] at pre2
    rw [if_neg (show ¬ kd (tA tp (skS tp e)) = 3 by omega), b] at ad
    obtain ⟨h3, e3, g29, g25, F3⟩ := g127 (b := j) (tp.length - skS tp e) FU (skS tp e) h2 (by omega) (fu_big (by omega)) H2 t2 f29
    rw [ruF_1 (by omega) b] at g29
    have F3' : Fr GKr h2 h3 := F3.mo fun b j z => by unfold GKr; omega
    have H3 := H2.g F3'
    have t3 := t2.g F3'
    have g26 : hCe h3 27 26 = (skS tp e : Int) := (F3.2 _ _ (by omega)).trans f26
    have g30 : hCe h3 27 30 = w := (F3.2 _ _ (by omega)).trans f30
    have g27' : hCe h3 27 27 = ((wxF (sl tp (skS tp e) (ruS tp 1 (skS tp e + 1))) 0 : Nat) : Int) := (F3.2 _ _ (by omega)).trans f27
    have rb := ruS_bd (tp := tp) (k := 1) (i := skS tp e + 1) (by omega)
    obtain ⟨h4, e4, k27, F4⟩ := g166 (tp := tp) (s := skS tp e) (e := ruS tp 1 (skS tp e + 1)) (by omega) rb.2 (fun i a1 a2 => by
      by_cases z : i = skS tp e
      · subst z; exact b
      · exact ruF_in tp 1 _ (skS tp e + 1) i (by omega) a2) 10 FU 0 h3 (by omega) (fu_big (by omega)) H3 t3 g26 g29 g27'
    have F4' : Fr GKr h3 h4 := F4.mo fun b j z => by unfold GKr; omega
    have k25 : hCe h4 27 25 = (if j = true then 4 else 1) := (F4.2 _ _ (by omega)).trans g25
    rw [ad] at wt ⊢
    refine ⟨h4, pre2 (e3.trans e4), ⟨H3.g F4', t3.g F4', k25.trans ?_, (F4.2 _ _ (by omega)).trans g26, (F4.2 _ _ (by omega)).trans g29, fun _ => k27, fun z => ?_, (F4.2 _ _ (by omega)).trans g30, wt⟩, F1.tr (F2.tr (F3'.tr F4'))⟩
    · unfold rtk
      cases j with
      | true =>
        have n59 : ¬ tA tp (skS tp e) = 59 := by have := kd_1 b; omega
        show (4 : Int) = if (3 : Int) = 0 then 0 else if (3 : Int) = 1 then 1 else if (3 : Int) = 2 then _ else if tA tp (skS tp e) = 59 then 3 else 4
        rw [if_neg (by decide), if_neg (by decide), if_neg (by decide), if_neg n59]
      | false => rfl
    · cases j with
      | true => exact absurd (show (3 : Int) = 2 from z) (by decide)
      | false => exact absurd (show (1 : Int) = 2 from z) (by decide)
  rw [if_neg b] at pre2
  by_cases c : kd (tA tp (skS tp e)) = 2
  · rw [if_pos c] at pre2
    rw [if_neg (show ¬ kd (tA tp (skS tp e)) = 3 by omega), c] at ad
    have Fz : Fr GKr h2 (hSet h2 27 28 0) := Fr.set ⟨rfl, by omega, by omega⟩
    obtain ⟨h3, e3, g29, g25, g28, F3⟩ := g210 (b := j) (s := skS tp e) (tp.length - skS tp e) FU (skS tp e) (hSet h2 27 28 0) (by omega) (fu_big (by omega)) (Nat.le_refl _) (H2.g Fz) (t2.g Fz) ((cN (by omega)).trans f26) ((cN (by omega)).trans f29) (fun i a1 a2 => absurd a1 (by omega)) (fun _ => by rw [cS, Nat.sub_self]; rfl)
    rw [ruF_1 (by omega) c] at g29 g25 g28
    have F3' : Fr GKr (hSet h2 27 28 0) h3 := F3.mo fun b j z => by unfold GKr; omega
    rw [ad] at wt ⊢
    refine ⟨h3, pre2 e3, ⟨(H2.g Fz).g F3', (t2.g Fz).g F3', g25.trans ?_, (F3.2 _ _ (by omega)).trans ((cN (by omega)).trans f26), g29, fun z => ?_, fun _ l => g28 l, (F3.2 _ _ (by omega)).trans ((cN (by omega)).trans f30), wt⟩, F1.tr (F2.tr (Fz.tr F3'))⟩
    · unfold rtk
      cases j with
      | true =>
        have n59 : ¬ tA tp (skS tp e) = 59 := by have := kd_2 c; omega
        show (4 : Int) = if (3 : Int) = 0 then 0 else if (3 : Int) = 1 then 1 else if (3 : Int) = 2 then _ else if tA tp (skS tp e) = 59 then 3 else 4
        rw [if_neg (by decide), if_neg (by decide), if_neg (by decide), if_neg n59]
      | false => rfl
    · cases j with
      | true => exact absurd (show (3 : Int) = 1 from z) (by decide)
      | false => exact absurd (show (2 : Int) = 1 from z) (by decide)
  rw [if_neg c] at pre2
  have k3 : kd (tA tp (skS tp e)) = 3 := by have := kd_c (tA tp (skS tp e)); omega
  rw [if_pos k3, k3, show (if j = true then (3 : Int) else 3) = 3 by cases j <;> rfl] at ad
  rw [ad] at wt ⊢
  have fin : ∀ v : Int, v = (if tA tp (skS tp e) = 59 then 3 else 4) → RQt (hSet (hSet h2 27 25 v) 27 29 ((skS tp e + 1 : Nat) : Int)) tp (3, skS tp e, skS tp e + 1) w ∧ Fr GKr h (hSet (hSet h2 27 25 v) 27 29 ((skS tp e + 1 : Nat) : Int)) := by
    intro v hv
    have F3 : Fr GKr h2 (hSet (hSet h2 27 25 v) 27 29 ((skS tp e + 1 : Nat) : Int)) := (Fr.set ⟨rfl, by omega, by omega⟩).setT ⟨rfl, by omega, by omega⟩
    refine ⟨⟨H2.g F3, t2.g F3, ((cN (by omega)).trans (cS _ _ _ _)).trans hv, (cN (by omega)).trans ((cN (by omega)).trans f26), cS _ _ _ _, (fun z => absurd (show (3 : Int) = 1 from z) (by decide)), (fun z => absurd (show (3 : Int) = 2 from z) (by decide)), (cN (by omega)).trans ((cN (by omega)).trans f30), wt⟩, F1.tr (F2.tr F3)⟩
  by_cases d : tA tp (skS tp e) = 59
  · rw [if_pos d] at pre2
    exact ⟨_, pre2 rfl, fin 3 (by rw [if_pos d])⟩
  · rw [if_neg d] at pre2
    exact ⟨_, pre2 rfl, fin 4 (by rw [if_neg d])⟩
theorem RQt.nx {h : AH} {T : T3} {w : Int} (R : RQt h tp T w) (l : T.1 = 2 → T.2.2 - T.2.1 ≤ 10) : ∃ h', R_goesOn 27 h = some h' ∧ RQt h' tp (nxT tp T) w ∧ Fr GKr h h' := by
  obtain ⟨H, t, c25, c26, c29, c27, c28, c30, wt⟩ := R
  obtain ⟨h', e, R', F⟩ := s_goesOn H t c25 c29 wt.2.1 c30
  have : jn (rtk tp T) = jn T.1 := by
    have a1 := rtk_1 wt
    have a2 := rtk_2 (tp := tp) (T := T)
    unfold jn
    refine decide_eq_decide.mpr ⟨fun z => ?_, fun z => ?_⟩
    · rcases z with z | z
      · exact Or.inl (a1.mp z)
      · exact Or.inr (a2.mp z).1
    · rcases z with z | z
      · exact Or.inl (a1.mpr z)
      · exact Or.inr (a2.mpr ⟨z, l z⟩)
  rw [this] at R'
  exact ⟨h', e, R', F⟩
theorem RQt.fr {P : Int → Int → Prop} {h h' : AH} {T : T3} {w : Int} (R : RQt h tp T w) (F : Fr P h h') (q : ∀ b j, P b j → Mut b j ∧ b ≠ 48 ∧ b ≠ 27) : RQt h' tp T w := by
  obtain ⟨H, t, c25, c26, c29, c27, c28, c30, wt⟩ := R
  have e : ∀ j, hCe h' 27 j = hCe h 27 j := fun j => F.2 _ _ fun z => (q _ _ z).2.2 rfl
  exact ⟨H.fr F fun b j z => (q b j z).1, t.fr F (fun z => (q _ _ z).2.2 rfl) (fun j z => (q _ _ z).2.1 rfl), (e _).trans c25, (e _).trans c26, (e _).trans c29, (fun z => (e _).trans (c27 z)), (fun z y => (e _).trans (c28 z y)), (e _).trans c30, wt⟩
theorem s_fails {h : AH} {T : T3} (R : RQt h tp T (-1)) : ∃ h', R_fails 27 h = some h' ∧ RQt h' tp T T.2.1 ∧ Fr GKr h h' := by
  obtain ⟨H, t, c25, c26, c29, c27, c28, c30, wt⟩ := R
  have F : Fr GKr h (hSet h 27 30 (T.2.1 : Int)) := Fr.set ⟨rfl, by omega, by omega⟩
  refine ⟨_, ?_, ⟨H.g F, t.g F, (cN (by omega)).trans c25, (cN (by omega)).trans c26, (cN (by omega)).trans c29, (fun z => (cN (by omega)).trans (c27 z)), (fun z y => (cN (by omega)).trans (c28 z y)), cS _ _ _ _, wt⟩, F⟩
  unfold R_fails
  refine gB H.t27 ?_
  rw [c30]
  refine ifT rfl ?_
  refine gB H.t27 ?_
  rw [c26]
  exact gB H.t27 rfl
theorem s_needsWord {h : AH} {T : T3} (R : RQt h tp T (-1)) {k : Nat} (hk : k < 10) : ∃ h', R_needsWord 27 k h = some h' ∧ RQt h' tp (twP tp k T).2 (if (twP tp k T).1 = true then -1 else (T.2.1 : Int)) ∧ Fr GKr h h' := by
  have H := R.1
  have wt := R.2.2.2.2.2.2.2.2
  have c27 := R.2.2.2.2.2.1
  have no : ∀ {r}, ((R_fails 27 h).bind fun h2 => some h2) = r → R_needsWord_25 27 h = r := by
    rintro r rfl
    unfold R_needsWord_25
    exact gB H.t27 rfl
  have sw : T.1 = 1 → (sl tp T.2.1 T.2.2 = wdR k ↔ hCe h 27 27 = (k : Int)) := fun z => by
    rw [wx_iff hk, c27 z]
    omega
  unfold twP
  by_cases q : T.1 = 1 ∧ sl tp T.2.1 T.2.2 = wdR k
  · rw [if_pos q]
    obtain ⟨h', e, R', F⟩ := R.nx fun z => by omega
    refine ⟨h', ?_, R', F⟩
    unfold R_needsWord
    refine gB H.t27 ?_
    rw [R.2.2.2.2.2.2.2.1]
    refine ifT rfl ?_
    refine gB H.t27 ?_
    rw [R.2.2.1]
    refine ifT ((rtk_1 wt).mpr q.1) ?_
    refine gB H.t27 ?_
    refine ifT ((sw q.1).mp q.2) ?_
    refine gB H.t27 ?_
    exact cB e rfl
  · rw [if_neg q]
    obtain ⟨h', e, R', F⟩ := s_fails R
    refine ⟨h', ?_, R', F⟩
    unfold R_needsWord
    refine gB H.t27 ?_
    rw [R.2.2.2.2.2.2.2.1]
    refine ifT rfl ?_
    refine gB H.t27 ?_
    rw [R.2.2.1]
    by_cases z : T.1 = 1
    · refine ifT ((rtk_1 wt).mpr z) ?_
      refine gB H.t27 ?_
      refine ifF (fun y => q ⟨z, (sw z).mpr y⟩) ?_
      exact no (cB e rfl)
    · refine ifF (fun y => z ((rtk_1 wt).mp y)) ?_
      exact no (cB e rfl)
theorem s_needsInt {h : AH} {T : T3} (R : RQt h tp T (-1)) {lo hi : Int} (hlo : 0 ≤ lo) (hhi : hi ≤ 1000000000) : ∃ h', R_needsInt 27 lo hi h = some ((tiP tp lo hi T).1.getD lo, h') ∧ RQt h' tp (tiP tp lo hi T).2 (if (tiP tp lo hi T).1.isSome = true then -1 else (T.2.1 : Int)) ∧ Fr GKr h h' := by
  have H := R.1
  have wt := R.2.2.2.2.2.2.2.2
  have c28 := R.2.2.2.2.2.2.1
  have no : ∀ {r}, ((R_fails 27 h).bind fun h2 => some (lo, h2)) = r → R_needsInt_32 27 lo h = r := by
    rintro r rfl
    unfold R_needsInt_32
    exact gB H.t27 rfl
  unfold tiP
  by_cases q : T.1 = 2 ∧ T.2.2 - T.2.1 ≤ 10 ∧ lo ≤ vaS tp T.2.1 T.2.2 ∧ vaS tp T.2.1 T.2.2 ≤ hi
  · rw [if_pos q]
    obtain ⟨h', e, R', F⟩ := R.nx fun _ => q.2.1
    refine ⟨h', ?_, R', F⟩
    unfold R_needsInt
    refine gB H.t27 ?_
    rw [R.2.2.2.2.2.2.2.1]
    refine ifT rfl ?_
    refine gB H.t27 ?_
    rw [R.2.2.1]
    refine ifT (rtk_2.mpr ⟨q.1, q.2.1⟩) ?_
    refine gB H.t27 ?_
    rw [c28 q.1 q.2.1]
    refine rin_if ?_
    rw [if_pos q.2.2]
    refine gB H.t27 ?_
    refine gB H.t27 ?_
    refine cB e ?_
    rw [w32_e (z := vaS tp T.2.1 T.2.2) (by omega)]
    rfl
  · rw [if_neg q]
    obtain ⟨h', e, R', F⟩ := s_fails R
    refine ⟨h', ?_, R', F⟩
    unfold R_needsInt
    refine gB H.t27 ?_
    rw [R.2.2.2.2.2.2.2.1]
    refine ifT rfl ?_
    refine gB H.t27 ?_
    rw [R.2.2.1]
    by_cases z : T.1 = 2 ∧ T.2.2 - T.2.1 ≤ 10
    · refine ifT (rtk_2.mpr z) ?_
      refine gB H.t27 ?_
      rw [c28 z.1 z.2]
      refine rin_if ?_
      rw [if_neg (fun y => q ⟨z.1, z.2, y⟩)]
      exact no (cB e rfl)
    · refine ifF (fun y => z (rtk_2.mp y)) ?_
      exact no (cB e rfl)
/-! behind a FAULT nothing is read any more -/
theorem d_word {h : AH} (H : Sh h) (w : hCe h 27 30 ≠ -1) {k : Int} : R_needsWord 27 k h = some h := by
  unfold R_needsWord
  refine gB H.t27 ?_
  exact ifF w rfl
theorem d_int {h : AH} (H : Sh h) (w : hCe h 27 30 ≠ -1) {lo hi : Int} : R_needsInt 27 lo hi h = some (lo, h) := by
  unfold R_needsInt
  refine gB H.t27 ?_
  exact ifF w rfl
theorem d_downs {h : AH} (H : Sh h) (w : hCe h 27 30 ≠ -1) {K b : Int} (f : Nat) : R_readsDowns_0 (f + 1) 27 K b h = some h := by
  unfold R_readsDowns_0
  refine gB H.t27 ?_
  exact ifF w rfl
theorem d_ups {h : AH} (H : Sh h) (w : hCe h 27 30 ≠ -1) {K : Int} (f : Nat) : R_readsUps_0 (f + 1) 27 K h = some h := by
  unfold R_readsUps_0
  refine gB H.t27 ?_
  exact ifF w rfl
theorem d_165 {h : AH} (H : Sh h) (w : hCe h 27 30 ≠ -1) : R_readsLine_165 27 h = some h := by
  unfold R_readsLine_165
  refine gB H.t27 ?_
  exact ifF w rfl
theorem d_153 {h : AH} (H : Sh h) (w : hCe h 27 30 ≠ -1) {K s : Int} : R_readsLine_153 27 K s h = some h := by
  unfold R_readsLine_153
  refine cB s_RhasPair ?_
  refine b2_if ?_
  have e : R_readsUps 27 K h = some h := d_ups H w 4294967295
  split
  · refine gB H.t27 ?_
    exact cB e (d_165 H w)
  · exact d_165 H w
theorem d_142 {h : AH} (H : Sh h) (w : hCe h 27 30 ≠ -1) {K s : Int} : R_readsLine_142 27 K s h = some h := by
  unfold R_readsLine_142
  by_cases q : s = 4
  · refine ifT q ?_
    refine gB H.t27 ?_
    exact cB (d_word H w) (d_153 H w)
  · exact ifF q (d_153 H w)
theorem s_hasDowns {s : Int} : R_hasDowns s = some (b2i (decide (s = 1 ∨ s = 2 ∨ s = 4))) := by
  unfold R_hasDowns
  by_cases a : s = 1
  · rw [if_pos a, decide_eq_true (Or.inl a)]; rfl
  rw [if_neg a]
  by_cases b : s = 2
  · rw [if_pos b, decide_eq_true (Or.inr (Or.inl b))]; rfl
  rw [if_neg b]
  by_cases c : s = 4
  · rw [if_pos c, decide_eq_true (Or.inr (Or.inr c))]; rfl
  · rw [if_neg c, decide_eq_false (by omega)]; rfl
theorem d_128 {h : AH} (H : Sh h) (w : hCe h 27 30 ≠ -1) {K s b : Int} : R_readsLine_128 27 K s b h = some h := by
  unfold R_readsLine_128
  refine cB s_hasDowns ?_
  refine b2_if ?_
  have e : R_readsDowns 27 K b h = some h := d_downs H w 4294967295
  split
  · refine gB H.t27 ?_
    exact cB e (d_142 H w)
  · exact d_142 H w
theorem d_125 {h : AH} (H : Sh h) (w : hCe h 27 30 ≠ -1) {K s b k : Int} : R_readsLine_125 27 K s b k 27 h = some h := by
  unfold R_readsLine_125
  refine gB H.t27 ?_
  exact cB (d_word H w) (d_128 H w)
theorem d_go {h : AH} (H : Sh h) (w : hCe h 27 30 ≠ -1) {K s b : Int} : (if s = 0 then R_readsLine_128 27 K s b h else if s = 4 then R_readsLine_125 27 K s b 8 27 h else R_readsLine_125 27 K s b 6 27 h) = some h := by
  split
  · exact d_128 H w
  · split
    · exact d_125 H w
    · exact d_125 H w
end GO2
