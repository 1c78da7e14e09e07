/-! the reference reads a line, all lines -/
section READR
variable {tp : List Int} {K : Nat}
theorem l_153 (hK : K ≤ 115) {h : AH} {T : T3} {l : LN} (R : RQt h tp T (-1)) (L : LM h K l) (u0 : l.1.2.1 = 3 ∨ l.1.2.1 = 4 → l.2.2 = []) : RO tp K (R_readsLine_153 27 K l.1.2.1 h) h (p153 tp l T) := by
  have pre : ∀ {r}, (if l.1.2.1 = 3 ∨ l.1.2.1 = 4 then ((R_readsUps 27 K h).bind fun h3 => R_readsLine_165 27 h3) else R_readsLine_165 27 h) = r → R_readsLine_153 27 K l.1.2.1 h = r := by
    rintro r rfl
    unfold R_readsLine_153
    refine cB s_RhasPair ?_
    by_cases q : l.1.2.1 = 3 ∨ l.1.2.1 = 4
    · rw [if_pos q, decide_eq_true q]
      refine ifF one_ne ?_
      exact gB R.1.t27 rfl
    · rw [if_neg q, decide_eq_false q]
      exact ifT rfl rfl
  rw [pre rfl]
  unfold p153
  by_cases q : l.1.2.1 = 3 ∨ l.1.2.1 = 4
  · rw [if_pos q, if_pos q]
    have L' : LM h K (l.1, l.2.1, []) := by rw [← u0 q]; exact L
    have c := rup (tp := tp) hK 9 4294967295 h T [] rfl (by omega) R L'
    exact RE.go (o := R_readsUps 27 K h) c (F := fun h3 => R_readsLine_165 27 h3) (fun h1 rs R1 L1 => l_165 R1 L1) (fun h1 H1 w => d_165 H1 w) fun rs k2 => p165_2 k2
  · rw [if_neg q, if_neg q]
    exact l_165 R L
theorem l_142 (hK : K ≤ 115) {h : AH} {T : T3} {l : LN} (R : RQt h tp T (-1)) (L : LM h K l) (u0 : l.1.2.1 = 3 ∨ l.1.2.1 = 4 → l.2.2 = []) : RO tp K (R_readsLine_142 27 K l.1.2.1 h) h (p142 tp l T) := by
  unfold R_readsLine_142 p142
  by_cases q : l.1.2.1 = 4
  · rw [if_pos q, if_pos q, gd_y R.1.t27, Option.bind_some]
    exact RO.word R L 9 (by omega) rfl (F := fun h2 => R_readsLine_153 27 K l.1.2.1 h2) (fun h1 R1 L1 => l_153 hK R1 L1 u0) fun h1 H1 w => d_153 H1 w
  · rw [if_neg q, if_neg q]
    exact l_153 hK R L u0
theorem p142_2 {l : LN} {T : T3} (k2 : T.1 = 2) (s : l.1.2.1 = 1 ∨ l.1.2.1 = 2 ∨ l.1.2.1 = 4) : p142 tp l T = (none, T) := by
  unfold p142
  by_cases q : l.1.2.1 = 4
  · rw [if_pos q]
    unfold mBW twP
    rw [if_neg (show ¬ (T.1 = 1 ∧ sl tp T.2.1 T.2.2 = wdR 9) from fun z => by have := z.1; omega)]
    rfl
  · rw [if_neg q]
    unfold p153
    rw [if_neg (by omega)]
    exact p165_2 k2
theorem l_128 (hK : K ≤ 115) {h : AH} {T : T3} {l : LN} {b : Int} (R : RQt h tp T (-1)) (L : LM h K l) (d0 : l.2.1 = []) (u0 : l.1.2.1 = 3 ∨ l.1.2.1 = 4 → l.2.2 = []) : RO tp K (R_readsLine_128 27 K l.1.2.1 b h) h (p128 tp b l T) := by
  have pre : ∀ {r}, (if l.1.2.1 = 1 ∨ l.1.2.1 = 2 ∨ l.1.2.1 = 4 then ((R_readsDowns 27 K b h).bind fun h3 => R_readsLine_142 27 K l.1.2.1 h3) else R_readsLine_142 27 K l.1.2.1 h) = r → R_readsLine_128 27 K l.1.2.1 b h = r := by
    rintro r rfl
    unfold R_readsLine_128
    refine cB s_hasDowns ?_
    by_cases q : l.1.2.1 = 1 ∨ l.1.2.1 = 2 ∨ l.1.2.1 = 4
    · rw [if_pos q, decide_eq_true q]
      refine ifF one_ne ?_
      exact gB R.1.t27 rfl
    · rw [if_neg q, decide_eq_false q]
      exact ifT rfl rfl
  rw [pre rfl]
  unfold p128
  by_cases q : l.1.2.1 = 1 ∨ l.1.2.1 = 2 ∨ l.1.2.1 = 4
  · rw [if_pos q, if_pos q]
    have L' : LM h K (l.1, [], l.2.2) := by rw [← d0]; exact L
    have c := rdn (tp := tp) hK (v2 := b) rfl 9 4294967295 h T [] rfl (by omega) R L'
    exact RE.go (o := R_readsDowns 27 K b h) c (F := fun h3 => R_readsLine_142 27 K l.1.2.1 h3) (fun h1 rs R1 L1 => l_142 (l := (l.1, rs, l.2.2)) hK R1 L1 u0) (fun h1 H1 w => d_142 H1 w) fun rs k2 => p142_2 (l := (l.1, rs, l.2.2)) k2 q
  · rw [if_neg q, if_neg q]
    exact l_142 hK R L u0
theorem l_125 (hK : K ≤ 115) {h : AH} {T : T3} {l : LN} {b : Int} {k : Nat} (hk : k < 10) {k' : Int} (ek : k' = (k : Int)) (R : RQt h tp T (-1)) (L : LM h K l) (d0 : l.2.1 = []) (u0 : l.1.2.1 = 3 ∨ l.1.2.1 = 4 → l.2.2 = []) : RO tp K (R_readsLine_125 27 K l.1.2.1 b k' 27 h) h (p125 tp k b l T) := by
  unfold R_readsLine_125 p125
  rw [gd_y R.1.t27, Option.bind_some]
  exact RO.word R L k hk ek (F := fun h2 => R_readsLine_128 27 K l.1.2.1 b h2) (fun h1 R1 L1 => l_128 hK R1 L1 d0 u0) fun h1 H1 w => d_128 H1 w
def rGo (K : Nat) (s b : Int) (h : AH) : Option AH := if s = 0 then R_readsLine_128 27 K s b h else if s = 4 then R_readsLine_125 27 K s b 8 27 h else R_readsLine_125 27 K s b 6 27 h
theorem l_go (hK : K ≤ 115) {h : AH} {T : T3} {l : LN} {b : Int} (R : RQt h tp T (-1)) (L : LM h K l) (d0 : l.2.1 = []) (u0 : l.2.2 = []) : RO tp K (rGo K l.1.2.1 b h) h (pGo tp b l T) := by
  unfold rGo pGo
  by_cases a : l.1.2.1 = 0
  · rw [if_pos a, if_pos a]; exact l_128 hK R L d0 fun _ => u0
  rw [if_neg a, if_neg a]
  by_cases c : l.1.2.1 = 4
  · rw [if_pos c, if_pos c]; exact l_125 hK (by omega) rfl R L d0 fun _ => u0
  · rw [if_neg c, if_neg c]; exact l_125 hK (by omega) rfl R L d0 fun _ => u0
theorem d_rgo {h : AH} (H : Sh h) (w : hCe h 27 30 ≠ -1) {s b : Int} : rGo K s b h = some h := d_go H w
/-- P, Q of a line of the reference -/
theorem LM.pq {h : AH} {l : LN} (L : LM h K l) {v : Int} : LM (hSet h 35 K v) K ((l.1.1, l.1.2.1, v, l.1.2.2.2), l.2) ∧ LM (hSet h 36 K v) K ((l.1.1, l.1.2.1, l.1.2.2.1, v), l.2) := by
  obtain ⟨⟨n1, n2, n3, n4⟩, ⟨d1, d9, d2, d3⟩, u1, u9, u2⟩ := L
  have c : ∀ a : Int, a = 35 ∨ a = 36 → ∀ b j : Int, b ≠ a → hCe (hSet h a K v) b j = hCe h b j := fun a ha b j hb => cN (by omega)
  refine ⟨⟨⟨(c _ (by omega) _ _ (by omega)).trans n1, (c _ (by omega) _ _ (by omega)).trans n2, cS _ _ _ _, (c _ (by omega) _ _ (by omega)).trans n4⟩, ⟨(c _ (by omega) _ _ (by omega)).trans d1, d9, fun i hi => ⟨(c _ (by omega) _ _ (by omega)).trans (d2 i hi).1, (c _ (by omega) _ _ (by omega)).trans (d2 i hi).2⟩, fun i hi => (c _ (by omega) _ _ (by omega)).trans (d3 i hi)⟩, (c _ (by omega) _ _ (by omega)).trans u1, u9, fun i hi => ⟨(c _ (by omega) _ _ (by omega)).trans (u2 i hi).1, (c _ (by omega) _ _ (by omega)).trans (u2 i hi).2⟩⟩, ⟨⟨(c _ (by omega) _ _ (by omega)).trans n1, (c _ (by omega) _ _ (by omega)).trans n2, (c _ (by omega) _ _ (by omega)).trans n3, cS _ _ _ _⟩, ⟨(c _ (by omega) _ _ (by omega)).trans d1, d9, fun i hi => ⟨(c _ (by omega) _ _ (by omega)).trans (d2 i hi).1, (c _ (by omega) _ _ (by omega)).trans (d2 i hi).2⟩, fun i hi => (c _ (by omega) _ _ (by omega)).trans (d3 i hi)⟩, (c _ (by omega) _ _ (by omega)).trans u1, u9, fun i hi => ⟨(c _ (by omega) _ _ (by omega)).trans (u2 i hi).1, (c _ (by omega) _ _ (by omega)).trans (u2 i hi).2⟩⟩⟩
theorem pq_fr {h : AH} {v : Int} : Fr (MK K) h (hSet h 35 K v) ∧ Fr (MK K) h (hSet h 36 K v) := ⟨Fr.set (Or.inl ⟨by omega, by omega, rfl⟩), Fr.set (Or.inl ⟨by omega, by omega, rfl⟩)⟩
/-- behind the word of P and Q -/
def rPq (K : Nat) (s b : Int) (h : AH) : Option AH := (gd (hTy h 27 = 10) (hCe h 27 10)).bind fun u4 => (gd (hTy h 27 = 10) 0).bind fun _ => (R_needsInt 27 1 99 h).bind fun u5 => (gd (hTy u5.2 u4 = 21 ∧ 0 ≤ (K : Int) ∧ (K : Int) < hLn u5.2 u4) (hSet u5.2 u4 K u5.1)).bind fun h6 => (gd (hTy h6 27 = 10) (hCe h6 27 11)).bind fun u7 => (gd (hTy h6 27 = 10) 0).bind fun _ => (R_needsInt 27 1 99 h6).bind fun u8 => (gd (hTy u8.2 u7 = 21 ∧ 0 ≤ (K : Int) ∧ (K : Int) < hLn u8.2 u7) (hSet u8.2 u7 K u8.1)).bind fun h9 => rGo K s b h9
theorem pq_run (hK : K ≤ 115) {h h1 : AH} (H : Sh h) {s b p : Int} (e1 : R_needsInt 27 1 99 h = some (p, h1)) (H1 : Sh h1) (H2 : Sh (hSet h1 35 K p)) {q : Int} {h3 : AH} (e3 : R_needsInt 27 1 99 (hSet h1 35 K p) = some (q, h3)) (H3 : Sh h3) : rPq K s b h = rGo K s b (hSet h3 36 K q) := by
  unfold rPq
  refine gB H.t27 ?_
  rw [H.p27_10]
  refine gB H.t27 ?_
  refine cB e1 ?_
  refine gB ⟨H1.t35, by omega, by rw [H1.l35]; omega⟩ ?_
  refine gB H2.t27 ?_
  rw [H2.p27_11]
  refine gB H2.t27 ?_
  refine cB e3 ?_
  exact gB ⟨H3.t36, by omega, by rw [H3.l36]; omega⟩ rfl
theorem RKm.gk {b j : Int} (z : GKr b j) : RKm K b j := Or.inl z
theorem RKm.mk {b j : Int} (z : MK K b j) : RKm K b j := Or.inr z
theorem d_pq (hK : K ≤ 115) {h : AH} {T : T3} {w : Nat} (R : RQt h tp T w) {s b : Int} : ∃ h', rPq K s b h = some h' ∧ Fr (RKm K) h h' ∧ RQt h' tp T w := by
  have F1 := (pq_fr (K := K) (h := h) (v := 1)).1
  have R1 := R.mk F1
  have F2 := (pq_fr (K := K) (h := hSet h 35 K 1) (v := 1)).2
  have R2 := R1.mk F2
  refine ⟨_, (pq_run hK R.1 (d_int R.1 R.dead) R.1 R1.1 (d_int R1.1 R1.dead) R1.1).trans (d_rgo R2.1 R2.dead), (F1.tr F2).mo fun b j => RKm.mk, R2⟩
theorem l_pq (hK : K ≤ 115) {h : AH} {T : T3} {n s p0 q0 b : Int} (R : RQt h tp T (-1)) (L : LM h K ((n, s, p0, q0), [], [])) : RO tp K (rPq K s b h) h (mBI (tiP tp 1 99 T) fun p T2 => mBI (tiP tp 1 99 T2) fun q T3 => pGo tp b ((n, s, p, q), [], []) T3) := by
  obtain ⟨h1, e1, R1, A1⟩ := s_needsInt R (lo := 1) (hi := 99) (by omega) (by omega)
  have L1 := L.gk A1
  cases c : (tiP tp 1 99 T).1 with
  | none =>
    have t0 : (tiP tp 1 99 T).2 = T := (tiP_n (Prod.ext c rfl : tiP tp 1 99 T = (none, (tiP tp 1 99 T).2))).1
    rw [c, t0] at R1
    have R1 : RQt h1 tp T (T.2.1 : Int) := R1
    rw [c] at e1
    have F1 := (pq_fr (K := K) (h := h1) (v := 1)).1
    have R2 := R1.mk F1
    have F2 := (pq_fr (K := K) (h := hSet h1 35 K 1) (v := 1)).2
    have R3 := R2.mk F2
    rw [mBI_n c, t0, pq_run hK R.1 e1 R1.1 R2.1 (d_int R2.1 R2.dead) R2.1, d_rgo R3.1 R3.dead]
    exact RO.tr ((A1.mo fun b j => RKm.gk).tr ((F1.tr F2).mo fun b j => RKm.mk)) (RO.dead R3)
  | some p =>
    rw [c] at R1 e1
    have R1 : RQt h1 tp (tiP tp 1 99 T).2 (-1) := R1
    have e1 : R_needsInt 27 1 99 h = some (p, h1) := e1
    rw [mBI_v c]
    have F1 := (pq_fr (K := K) (h := h1) (v := p)).1
    have R2 := R1.mk F1
    have L2 := (L1.pq (v := p)).1
    obtain ⟨h3, e3, R3, A3⟩ := s_needsInt R2 (lo := 1) (hi := 99) (by omega) (by omega)
    have L3 := L2.gk A3
    generalize (tiP tp 1 99 T).2 = T2 at *
    cases c2 : (tiP tp 1 99 T2).1 with
    | none =>
      have t0 : (tiP tp 1 99 T2).2 = T2 := (tiP_n (Prod.ext c2 rfl : tiP tp 1 99 T2 = (none, (tiP tp 1 99 T2).2))).1
      rw [c2, t0] at R3
      have R3 : RQt h3 tp T2 (T2.2.1 : Int) := R3
      rw [c2] at e3
      have F3 := (pq_fr (K := K) (h := h3) (v := 1)).2
      have R4 := R3.mk F3
      rw [mBI_n c2, t0, pq_run hK R.1 e1 R1.1 R2.1 e3 R3.1]
      show RO tp K (rGo K s b (hSet h3 36 K 1)) h _
      rw [d_rgo R4.1 R4.dead]
      exact RO.tr ((A1.mo fun b j => RKm.gk).tr ((F1.mo fun b j => RKm.mk).tr ((A3.mo fun b j => RKm.gk).tr (F3.mo fun b j => RKm.mk)))) (RO.dead R4)
    | some q =>
      rw [c2] at R3 e3
      have R3 : RQt h3 tp (tiP tp 1 99 T2).2 (-1) := R3
      have e3 : R_needsInt 27 1 99 (hSet h1 35 K p) = some (q, h3) := e3
      have F3 := (pq_fr (K := K) (h := h3) (v := q)).2
      rw [mBI_v c2, pq_run hK R.1 e1 R1.1 R2.1 e3 R3.1]
      exact RO.tr ((A1.mo fun b j => RKm.gk).tr ((F1.mo fun b j => RKm.mk).tr ((A3.mo fun b j => RKm.gk).tr (F3.mo fun b j => RKm.mk)))) (l_go (l := ((n, s, p, q), [], [])) hK (R3.mk F3) (L3.pq (v := q)).2 rfl rfl)
theorem r69 {h : AH} (H : Sh h) {s b : Int} : R_readsLine_69 27 K s b h = if s = 3 ∨ s = 4 then (R_needsWord 27 7 h).bind fun h3 => rPq K s b h3 else rGo K s b h := by
  unfold R_readsLine_69
  refine cB s_RhasPair ?_
  by_cases q : s = 3 ∨ s = 4
  · rw [if_pos q, decide_eq_true q]
    refine ifF one_ne ?_
    exact gB H.t27 rfl
  · rw [if_neg q, decide_eq_false q]
    exact ifT rfl rfl
theorem d_69 (hK : K ≤ 115) {h : AH} {T : T3} {w : Nat} (R : RQt h tp T w) {s b : Int} : ∃ h', R_readsLine_69 27 K s b h = some h' ∧ Fr (RKm K) h h' ∧ RQt h' tp T w := by
  rw [r69 R.1]
  split
  · rw [d_word R.1 R.dead, Option.bind_some]
    exact d_pq hK R
  · exact ⟨h, d_rgo R.1 R.dead, Fr.rf, R⟩
theorem l_69 (hK : K ≤ 115) {h : AH} {T : T3} {n s b : Int} (R : RQt h tp T (-1)) (L : LM h K ((n, s, 0, 0), [], [])) : RO tp K (R_readsLine_69 27 K s b h) h (p69 tp b ((n, s, 0, 0), [], []) T) := by
  rw [r69 R.1]
  unfold p69
  by_cases q : s = 3 ∨ s = 4
  · rw [if_pos q, if_pos q]
    obtain ⟨h1, e1, R1, A1⟩ := s_needsWord R (k := 7) (by omega)
    have e1 : R_needsWord 27 7 h = some h1 := e1
    rw [e1, Option.bind_some]
    refine RO.tr (A1.mo fun b j => RKm.gk) ?_
    cases c : (twP tp 7 T).1 with
    | true =>
      rw [c] at R1
      have R1 : RQt h1 tp (twP tp 7 T).2 (-1) := R1
      have := l_pq hK (b := b) R1 (L.gk A1)
      unfold mBW
      rw [c, if_pos rfl]
      exact this
    | false =>
      rw [c] at R1
      have t0 : (twP tp 7 T).2 = T := by
        unfold twP at c ⊢
        split at c
        · cases c
        · rename_i z; rw [if_neg z]
      have R1 : RQt h1 tp (twP tp 7 T).2 (T.2.1 : Int) := R1
      rw [t0] at R1
      obtain ⟨h2, e2, F2, R2⟩ := d_pq hK (K := K) (s := s) (b := b) R1
      rw [e2]
      unfold mBW
      rw [c, if_neg (by decide), t0]
      exact RO.tr F2 (RO.dead R2)
  · rw [if_neg q, if_neg q]
    exact l_go (l := ((n, s, 0, 0), [], [])) hK R L rfl rfl
theorem s_readsLine (hK : K ≤ 115) {h : AH} {T : T3} (R : RQt h tp T (-1)) : RO tp K (R_readsLine 27 K h) h (pLn tp T) := by
  have H := R.1
  have wt := R.2.2.2.2.2.2.2.2
  have no : ∀ {r}, R_fails 27 h = r → R_readsLine_16 27 h = r := by
    rintro r rfl
    unfold R_readsLine_16
    refine gB H.t27 ?_
    cases R_fails 27 h <;> rfl
  unfold pLn
  by_cases z : stP tp T = -1
  · rw [if_pos z]
    obtain ⟨h1, e1, R1, F1⟩ := s_fails R
    have e2 : R_readsLine 27 K h = some h1 := by
      unfold R_readsLine
      refine gB H.t27 ?_
      rw [R.2.2.1]
      by_cases k1 : T.1 = 1
      · refine ifT ((rtk_1 wt).mpr k1) ?_
        refine gB H.t27 ?_
        rw [R.2.2.2.2.2.1 k1]
        have : ¬ wx (sl tp T.2.1 T.2.2) < 5 := fun y => by
          unfold stP at z
          rw [if_pos ⟨k1, y⟩] at z
          omega
        refine ifT (by omega) ?_
        exact no e1
      · refine ifF (fun y => k1 ((rtk_1 wt).mp y)) ?_
        exact no e1
    rw [e2]
    exact RO.tr (F1.mo fun b j => RKm.gk) (RO.dead R1)
  rw [if_neg z]
  have c1 : T.1 = 1 ∧ wx (sl tp T.2.1 T.2.2) < 5 ∧ stP tp T = ((wx (sl tp T.2.1 T.2.2) : Nat) : Int) := by
    unfold stP at z ⊢
    by_cases q : T.1 = 1 ∧ wx (sl tp T.2.1 T.2.2) < 5
    · rw [if_pos q]; exact ⟨q.1, q.2, rfl⟩
    · rw [if_neg q] at z; exact absurd rfl z
  obtain ⟨h1, e1, R1, A1⟩ := R.nx fun y => by omega
  obtain ⟨h2, e2, R2, A2⟩ := s_needsInt R1 (lo := 2) (hi := 1000000000) (by omega) (by omega)
  obtain ⟨h3, e3, F3, L3⟩ := s_begins R2.1 hK (n := (tiP tp 2 1000000000 (nxT tp T)).1.getD 2) (s := stP tp T)
  have R3 := R2.mk F3
  have pre : ∀ {r}, (if stP tp T = 1 then ((R_needsWord 27 5 h3).bind fun h10 => (gd (hTy h10 27 = 10) 0).bind fun _ => (R_needsInt 27 2 999 h10).bind fun u11 => R_readsLine_69 27 K (stP tp T) u11.1 u11.2) else R_readsLine_69 27 K (stP tp T) 0 h3) = r → R_readsLine 27 K h = r := by
    rintro r rfl
    unfold R_readsLine
    refine gB H.t27 ?_
    rw [R.2.2.1]
    refine ifT ((rtk_1 wt).mpr c1.1) ?_
    refine gB H.t27 ?_
    rw [R.2.2.2.2.2.1 c1.1, ← c1.2.2]
    refine ifF (by omega) ?_
    refine gB H.t27 ?_
    refine gB H.t27 ?_
    refine cB e1 ?_
    refine gB R1.1.t27 ?_
    refine cB e2 ?_
    refine gB R2.1.t27 ?_
    refine cB e3 ?_
    by_cases q : stP tp T = 1
    · rw [if_pos q, if_pos q]
      exact gB R3.1.t27 rfl
    · rw [if_neg q, if_neg q]
  rw [pre rfl]
  refine RO.tr ((A1.mo fun b j => RKm.gk).tr ((A2.mo fun b j => RKm.gk).tr (F3.mo fun b j => RKm.mk))) ?_
  cases c : (tiP tp 2 1000000000 (nxT tp T)).1 with
  | none =>
    have t0 : (tiP tp 2 1000000000 (nxT tp T)).2 = nxT tp T := (tiP_n (Prod.ext c rfl : tiP tp 2 1000000000 (nxT tp T) = (none, (tiP tp 2 1000000000 (nxT tp T)).2))).1
    rw [c, t0] at R3
    have R3 : RQt h3 tp (nxT tp T) ((nxT tp T).2.1 : Int) := R3
    rw [mBI_n c, t0]
    by_cases q : stP tp T = 1
    · rw [if_pos q, d_word R3.1 R3.dead, Option.bind_some, gd_y R3.1.t27, Option.bind_some, d_int R3.1 R3.dead, Option.bind_some]
      obtain ⟨h4, e4, F4, R4⟩ := d_69 hK R3 (s := stP tp T) (b := 2)
      dsimp only
      rw [e4]
      exact RO.tr F4 (RO.dead R4)
    · rw [if_neg q]
      obtain ⟨h4, e4, F4, R4⟩ := d_69 hK R3 (s := stP tp T) (b := 0)
      rw [e4]
      exact RO.tr F4 (RO.dead R4)
  | some n =>
    rw [c] at R3 L3
    have R3 : RQt h3 tp (tiP tp 2 1000000000 (nxT tp T)).2 (-1) := R3
    have L3 : LM h3 K ((n, stP tp T, 0, 0), [], []) := L3
    rw [mBI_v c]
    generalize (tiP tp 2 1000000000 (nxT tp T)).2 = T1 at *
    by_cases q : stP tp T = 1
    · rw [if_pos q, if_pos q]
      obtain ⟨h4, e4, R4, A4⟩ := s_needsWord R3 (k := 5) (by omega)
      have e4 : R_needsWord 27 5 h3 = some h4 := e4
      rw [e4, Option.bind_some, gd_y R4.1.t27, Option.bind_some]
      refine RO.tr (A4.mo fun b j => RKm.gk) ?_
      cases c5 : (twP tp 5 T1).1 with
      | false =>
        rw [c5] at R4
        have t0 : (twP tp 5 T1).2 = T1 := by
          unfold twP at c5 ⊢
          split at c5
          · cases c5
          · rename_i y; rw [if_neg y]
        have R4 : RQt h4 tp (twP tp 5 T1).2 (T1.2.1 : Int) := R4
        rw [t0] at R4
        rw [d_int R4.1 R4.dead, Option.bind_some]
        obtain ⟨h5, e5, F5, R5⟩ := d_69 hK R4 (s := stP tp T) (b := 2)
        dsimp only
        rw [e5]
        unfold mBW
        rw [c5, if_neg (by decide), t0]
        exact RO.tr F5 (RO.dead R5)
      | true =>
        rw [c5] at R4
        have R4 : RQt h4 tp (twP tp 5 T1).2 (-1) := R4
        unfold mBW
        rw [c5, if_pos rfl]
        generalize (twP tp 5 T1).2 = T2 at *
        obtain ⟨h5, e5, R5, A5⟩ := s_needsInt R4 (lo := 2) (hi := 999) (by omega) (by omega)
        rw [e5, Option.bind_some]
        dsimp only
        refine RO.tr (A5.mo fun b j => RKm.gk) ?_
        cases c6 : (tiP tp 2 999 T2).1 with
        | none =>
          have t0 : (tiP tp 2 999 T2).2 = T2 := (tiP_n (Prod.ext c6 rfl : tiP tp 2 999 T2 = (none, (tiP tp 2 999 T2).2))).1
          rw [c6, t0] at R5
          have R5 : RQt h5 tp T2 (T2.2.1 : Int) := R5
          obtain ⟨h6, e6, F6, R6⟩ := d_69 hK R5 (s := stP tp T) (b := 2)
          have e6 : R_readsLine_69 27 K (stP tp T) ((none : Option Int).getD 2) h5 = some h6 := e6
          rw [e6, mBI_n c6, t0]
          exact RO.tr F6 (RO.dead R6)
        | some b =>
          rw [c6] at R5
          have R5 : RQt h5 tp (tiP tp 2 999 T2).2 (-1) := R5
          rw [mBI_v c6]
          exact l_69 hK R5 ((L3.gk A4).gk A5)
    · rw [if_neg q, if_neg q]
      exact l_69 hK R3 L3
end READR
