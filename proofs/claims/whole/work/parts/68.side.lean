/-! class and reference side by side -/
/-- the bytes told so far -/
def TP (h : AH) (o f a : Int) (tp : List Int) : Prop := hCe h o f = (tp.length : Int) ∧ tp.length ≤ 400 ∧ (∀ x ∈ tp, 0 ≤ x ∧ x ≤ 255) ∧ ∀ i : Nat, i < tp.length → hCe h a i = tp.getD i 0
def XS (h : AH) (ls : List LN) (tp : List Int) : Prop := (∃ hw dw, FUL h hw dw ls) ∧ TP h 14 1 15 tp
def MS (h : AH) (ls : List LN) (tp : List Int) : Prop := Sh h ∧ MD h ls ∧ TP h 27 24 48 tp
/-- what calls of the class change, what those of the reference do -/
def CZ (b _j : Int) : Prop := b ≤ 26 ∨ 52 ≤ b
def MZ (b j : Int) : Prop := Mut b j ∧ 27 ≤ b ∧ b ≤ 51
theorem XS.sh {h : AH} {ls : List LN} {tp : List Int} (X : XS h ls tp) : Sh h := by
  obtain ⟨⟨hw, dw, U⟩, -⟩ := X
  exact U.1.1
theorem Sh.n52 {h : AH} (H : Sh h) : 52 ≤ hNx h := by
  obtain ⟨-, -, -, n, hn, -⟩ := H
  rw [hn]
  unfold blkA
  omega
theorem FUL.frS {P : Int → Int → Prop} {h h' : AH} {hw dw : Nat} {ls : List LN} (U : FUL h hw dw ls) (F : Fr P h h') (q : ∀ b j, P b j → Mut b j ∧ 14 ≤ b ∧ b ≤ 51) : FUL h' hw dw ls := by
  refine U.gr F.gr (U.1.1.fr F fun b j z => (q b j z).1) (U.1.2.1.fr F (fun j z => by have := q _ _ z; omega) (fun j z => by have := q _ _ z; omega)) U.1.2.2.1 (fun b j x y _ z => by have := q _ _ z; omega) (fun i hi b j x y z => ?_)
  have := U.1.pr hi
  have := q _ _ z
  omega
theorem XS.frS {P : Int → Int → Prop} {h h' : AH} {ls : List LN} {tp : List Int} (X : XS h ls tp) (F : Fr P h h') (q : ∀ b j, P b j → Mut b j ∧ 16 ≤ b ∧ b ≤ 51) : XS h' ls tp := by
  obtain ⟨⟨hw, dw, U⟩, t1, t2, t3, t4⟩ := X
  refine ⟨⟨hw, dw, U.frS F fun b j z => by have := q b j z; exact ⟨this.1, by omega, this.2.2⟩⟩, (F.2 _ _ fun z => by have := q _ _ z; omega).trans t1, t2, t3, fun i hi => (F.2 _ _ fun z => by have := q _ _ z; omega).trans (t4 i hi)⟩
theorem MS.gr {h h' : AH} {ls : List LN} {tp : List Int} (M : MS h ls tp) (G : Gr CZ h h') (S : Sh h') : MS h' ls tp := by
  obtain ⟨H, M, t1, t2, t3, t4⟩ := M
  have n := H.n52
  have e : ∀ b j, 27 ≤ b → b ≤ 51 → hCe h' b j = hCe h b j := fun b j x y => G.2.1 b j (by omega) (by unfold CZ; omega)
  exact ⟨S, M.of (e _ _ (by omega) (by omega)) fun b j x y => e b j (by omega) (by omega), (e _ _ (by omega) (by omega)).trans t1, t2, t3, fun i hi => (e _ _ (by omega) (by omega)).trans (t4 i hi)⟩
/-- a call of the class, of the reference: its answer and what it leaves -/
def xC (X : AH → Option (Int × AH)) (ls : List LN) (tp : List Int) (r : Int) (ls' : List LN) (tp' : List Int) : Prop := ∀ h, XS h ls tp → ∃ h', X h = some (r, h') ∧ XS h' ls' tp' ∧ Gr CZ h h'
def rC (R : AH → Option (Int × AH)) (ls : List LN) (tp : List Int) (r : Int) (ls' : List LN) (tp' : List Int) : Prop := ∀ h, MS h ls tp → ∃ h', R h = some (r, h') ∧ MS h' ls' tp' ∧ Fr MZ h h'
def stOK (ls : List LN) (tp : List Int) : Prop := ls.length ≤ 60 ∧ (∀ i : Nat, i < ls.length → okL (gl ls i)) ∧ tp.length ≤ 400 ∧ ∀ x ∈ tp, 0 ≤ x ∧ x ≤ 255
def sim (X R : AH → Option (Int × AH)) : Prop := ∀ h ls tp, XS h ls tp → MS h ls tp → ∃ r h1 h2 ls' tp', X h = some (r, h1) ∧ R h1 = some (r, h2) ∧ Sh h1 ∧ XS h2 ls' tp' ∧ MS h2 ls' tp'
theorem MS.ok {h : AH} {ls : List LN} {tp : List Int} (M : MS h ls tp) : stOK ls tp := ⟨M.2.1.2.1, fun i hi => (M.2.1.2.2 i hi).2, M.2.2.2.1, M.2.2.2.2.1⟩
theorem mk_sim {X R : AH → Option (Int × AH)} (c : ∀ ls tp, stOK ls tp → ∃ r ls' tp', xC X ls tp r ls' tp' ∧ rC R ls tp r ls' tp') : sim X R := by
  intro h ls tp x m
  obtain ⟨r, ls', tp', cx, cr⟩ := c ls tp m.ok
  obtain ⟨h1, e1, x1, G⟩ := cx h x
  obtain ⟨h2, e2, m2, F⟩ := cr h1 (m.gr G x1.sh)
  exact ⟨r, h1, h2, ls', tp', e1, e2, x1.sh, x1.frS F fun b j z => ⟨z.1, by have := z.2; omega⟩, m2⟩
/-- a call on numbers -/
theorem nc_sim {P Q : Int → Int → Prop} {X R : AH → Option (Int × AH)} (c : nCall P Q X R) (qP : ∀ b j, P b j → Mut b j ∧ 16 ≤ b ∧ b ≤ 26) (qQ : ∀ b j, Q b j → MZ b j ∧ (b = 27 → j ≠ 7 ∧ j ≠ 24) ∧ (b < 33 ∨ 43 < b) ∧ b ≠ 48) : sim X R := by
  intro h ls tp x m
  obtain ⟨r, h1, e1, F1, c2⟩ := c h x.sh
  have x1 := x.frS F1 fun b j z => by have := qP b j z; exact ⟨this.1, by omega⟩
  have m1 := m.gr (F1.gr.mo fun b j z => by have := qP b j z; unfold CZ; omega) x1.sh
  obtain ⟨h2, e2, F2⟩ := c2 h1 x1.sh
  have x2 := x1.frS F2 fun b j z => by have := (qQ b j z).1; exact ⟨this.1, by have := this.2; omega⟩
  obtain ⟨H, M, t1, t2, t3, t4⟩ := m1
  exact ⟨r, h1, h2, ls, tp, e1, e2, x1.sh, x2, x2.sh, M.fr F2 (fun z => absurd rfl ((qQ _ _ z).2.1 rfl).1) (fun b j a1 a2 z => by have := (qQ _ _ z).2.2.1; omega), (F2.2 _ _ fun z => absurd rfl ((qQ _ _ z).2.1 rfl).2).trans t1, t2, t3, fun i hi => (F2.2 _ _ fun z => absurd rfl (qQ _ _ z).2.2.2).trans (t4 i hi)⟩
def lft (o : Option Int) (h : AH) : Option (Int × AH) := o.bind fun r => some (r, h)
theorem lft_s {o : Option Int} {r : Int} {h : AH} (e : o = some r) : lft o h = some (r, h) := by rw [e]; rfl
theorem pc_sim {X R : Option Int} (c : pCall X R) : sim (lft X) (lft R) := by
  intro h ls tp x m
  obtain ⟨r, e1, e2⟩ := c
  exact ⟨r, h, h, ls, tp, lft_s e1, lft_s e2, x.sh, x, m⟩
/-- an answer that leaves all as it is -/
theorem xC.keep {X : AH → Option (Int × AH)} {ls : List LN} {tp : List Int} {r : Int} (c : ∀ h hw dw, FUL h hw dw ls → TP h 14 1 15 tp → X h = some (r, h)) : xC X ls tp r ls tp := fun h x => by
  obtain ⟨⟨hw, dw, U⟩, t⟩ := x
  exact ⟨h, c h hw dw U t, ⟨⟨hw, dw, U⟩, t⟩, Gr.rf⟩
theorem rC.keep {R : AH → Option (Int × AH)} {ls : List LN} {tp : List Int} {r : Int} (c : ∀ h, MS h ls tp → R h = some (r, h)) : rC R ls tp r ls tp := fun h m => ⟨h, c h m, m, Fr.rf⟩
theorem WK.mz {b j : Int} (z : WK b j) : MZ b j := ⟨z.mut, by unfold WK at z; omega⟩
theorem MS.frQ {P : Int → Int → Prop} {h h' : AH} {ls : List LN} {tp : List Int} (m : MS h ls tp) (F : Fr P h h') (q : ∀ b j, P b j → Mut b j ∧ (b = 27 → j ≠ 7 ∧ j ≠ 24) ∧ (b < 33 ∨ 43 < b) ∧ b ≠ 48) : MS h' ls tp := by
  obtain ⟨H, M, t1, t2, t3, t4⟩ := m
  exact ⟨H.fr F fun b j z => (q b j z).1, M.fr F (fun z => absurd rfl ((q _ _ z).2.1 rfl).1) (fun b j a1 a2 z => by have := (q _ _ z).2.2.1; omega), (F.2 _ _ fun z => absurd rfl ((q _ _ z).2.1 rfl).2).trans t1, t2, t3, fun i hi => (F.2 _ _ fun z => absurd rfl (q _ _ z).2.2.2).trans (t4 i hi)⟩
theorem WK.q {b j : Int} (z : WK b j) : Mut b j ∧ (b = 27 → j ≠ 7 ∧ j ≠ 24) ∧ (b < 33 ∨ 43 < b) ∧ b ≠ 48 := ⟨z.mut, by unfold WK at z; omega⟩
/-- an answer for which the reference lays right lines first -/
theorem rC.lay {R : AH → Option (Int × AH)} {ls : List LN} {tp : List Int} {r : Int} (c : ∀ h h', MS h ls tp → R_laysRight 27 h = some h' → MS h' ls tp → LR h' ls ls.length → R h = some (r, h')) : rC R ls tp r ls tp := fun h m => by
  obtain ⟨h', e', F', L'⟩ := s_laysRight m.1 m.2.1
  have m' := m.frQ F' fun b j => WK.q
  exact ⟨h', c h h' m e' m' L', m', F'.mo fun b j => WK.mz⟩
/-! ### right -/
theorem s_isLine {h : AH} {ls : List LN} {tp : List Int} (m : MS h ls tp) {i : Int} : R_isLine 27 i h = some (b2i (decide (0 ≤ i ∧ i < ls.length))) := by
  have l := m.2.1.2.1
  unfold R_isLine
  refine gB m.1.t27 ?_
  rw [m.2.1.1, w32_e (by omega)]
  refine cB s_Rin ?_
  rw [show decide (0 ≤ i ∧ i ≤ (ls.length : Int) - 1) = decide (0 ≤ i ∧ i < (ls.length : Int)) from decide_eq_decide.mpr (by omega)]
  refine gB ?_ rfl
  cases decide (0 ≤ i ∧ i < (ls.length : Int)) <;> decide
theorem rr_loop {h : AH} {ls : List LN} {tp : List Int} (m : MS h ls tp) (L : LR h ls ls.length) {n : Nat} (nb : n < 2 ^ ls.length) (nt : ∀ i, i < ls.length → n.testBit i = rtS ls i) : ∀ (k f i : Nat) (v : Nat), i + k = ls.length → k < f → v < 2 ^ i → (∀ j, j < i → v.testBit j = rtS ls j) → R_right_8 f 27 v i h = some ((n : Int), h) := by
  have H := m.1
  have l := m.2.1.2.1
  intro k
  induction k with
  | zero =>
    intro f i v hi hf vb vt
    obtain ⟨f, rfl, -⟩ := fu_pos hf
    have : v = n := Nat.eq_of_testBit_eq fun j => by
      rcases Nat.lt_or_ge j i with y | y
      · rw [vt j y, nt j (by omega)]
      · rw [Nat.testBit_lt_two_pow (Nat.lt_of_lt_of_le vb (Nat.pow_le_pow_right (by omega) y)), Nat.testBit_lt_two_pow (Nat.lt_of_lt_of_le nb (Nat.pow_le_pow_right (by omega) (by omega)))]
    subst this
    unfold R_right_8
    refine gB H.t27 ?_
    rw [m.2.1.1]
    exact ifF (by omega) rfl
  | succ k ih =>
    intro f i v hi hf vb vt
    obtain ⟨f, rfl, hf⟩ := fu_pos hf
    have c := (L i (by omega)).1
    have v63 : v < 9223372036854775808 := Nat.lt_of_lt_of_le vb (Nat.pow_le_pow_right (n := 2) (by omega) (show i ≤ 63 by omega))
    have p63 : 2 ^ i < 9223372036854775808 := p2_63 (by omega)
    have v2 : v < 2 ^ (i + 1) := by rw [Nat.pow_succ]; omega
    unfold R_right_8
    refine gB H.t27 ?_
    rw [m.2.1.1]
    refine ifT (by omega) ?_
    refine gB H.t27 ?_
    rw [H.p27_19]
    refine gB ⟨Or.inr H.t44, by omega, by rw [H.l44]; omega⟩ ?_
    rw [c, w32_e (z := (i : Int) + 1) (by omega)]
    cases rt : rtS ls i with
    | false =>
      refine ifT rfl ?_
      refine ih f (i + 1) v (by omega) (by omega) v2 fun j hj => ?_
      by_cases q : j = i
      · subst q; rw [rt, Nat.testBit_lt_two_pow vb]
      · exact vt j (by omega)
    | true =>
      refine ifF one_ne ?_
      rw [shl_1 (by omega), orL_n v63 p63]
      refine ih f (i + 1) (v ||| 2 ^ i) (by omega) (by omega) (Nat.or_lt_two_pow v2 (Nat.pow_lt_pow_right (by omega) (by omega))) fun j hj => ?_
      rw [tb_or]
      by_cases q : j = i
      · subst q; rw [rt, decide_eq_true rfl, Bool.or_true]
      · rw [vt j (by omega), decide_eq_false (fun z => q z.symm), Bool.or_false]
theorem ri_ex (ls : List LN) : ∃ n : Nat, n < 2 ^ ls.length ∧ ∀ i, i < ls.length → n.testBit i = rtS ls i := by
  have : ∀ k : Nat, ∃ n : Nat, n < 2 ^ k ∧ ∀ i, i < k → n.testBit i = rtS ls i := by
    intro k
    induction k with
    | zero => exact ⟨0, by decide, fun i hi => absurd hi (Nat.not_lt_zero i)⟩
    | succ k ih =>
      obtain ⟨n, a, b⟩ := ih
      have n2 : n < 2 ^ (k + 1) := by rw [Nat.pow_succ]; omega
      cases rt : rtS ls k with
      | false =>
        refine ⟨n, n2, fun i hi => ?_⟩
        by_cases q : i = k
        · subst q; rw [rt, Nat.testBit_lt_two_pow a]
        · exact b i (by omega)
      | true =>
        refine ⟨n ||| 2 ^ k, Nat.or_lt_two_pow n2 (Nat.pow_lt_pow_right (by omega) (by omega)), fun i hi => ?_⟩
        rw [tb_or]
        by_cases q : i = k
        · subst q; rw [rt, decide_eq_true rfl, Bool.or_true]
        · rw [b i (by omega), decide_eq_false (fun z => q z.symm), Bool.or_false]
  exact this ls.length
theorem bit_eq {n m k : Nat} (a : n < 2 ^ k) (b : m < 2 ^ k) (c : ∀ i, i < k → n.testBit i = m.testBit i) : n = m := Nat.eq_of_testBit_eq fun j => by
  rcases Nat.lt_or_ge j k with y | y
  · exact c j y
  · rw [Nat.testBit_lt_two_pow (Nat.lt_of_lt_of_le a (Nat.pow_le_pow_right (by omega) y)), Nat.testBit_lt_two_pow (Nat.lt_of_lt_of_le b (Nat.pow_le_pow_right (by omega) y))]
theorem q_right : sim (fun h => lft (X_right 0 h) h) (fun h => R_right 27 h) := mk_sim fun ls tp ok => by
  obtain ⟨n, nb, nt⟩ := ri_ex ls
  refine ⟨(n : Int), ls, tp, xC.keep fun h hw dw U t => lft_s ?_, rC.lay fun h h' m e m' L => ?_⟩
  · obtain ⟨C, S, m, B⟩ := U
    have H := C.1
    unfold X_right
    refine gB H.t0 ?_
    rw [H.p0_0]
    refine gB H.t1 ?_
    rw [B.1, bit_eq B.2.1 nb fun i hi => (B.2.2 i hi).trans (nt i hi).symm]
  · show R_right 27 h = _
    unfold R_right
    refine gB m.1.t27 ?_
    refine cB e ?_
    exact rr_loop m' L nb nt ls.length FU 0 0 (by omega) (fu_big (by have := ok.1; omega)) (by decide) fun j hj => absurd hj (Nat.not_lt_zero j)
/-! ### drop, clear, back -/
theorem MD.take {h : AH} {ls : List LN} (M : MD h ls) {t : Nat} (ht : t ≤ ls.length) : MD (hSet h 27 7 (t : Int)) (ls.take t) := by
  have len : (ls.take t).length = t := by rw [List.length_take]; omega
  refine ⟨by rw [cS, len], by have := M.2.1; omega, fun i hi => ?_⟩
  have e : gl (ls.take t) i = gl ls i := by
    unfold gl
    rw [List.getD_eq_getElem?_getD, List.getD_eq_getElem?_getD, List.getElem?_take, if_pos (by omega)]
  rw [e]
  exact ⟨(M.2.2 i (by omega)).1.of fun b j z => cN (by unfold MK at z; omega), (M.2.2 i (by omega)).2⟩
theorem MS.set7 {h : AH} {ls : List LN} {tp : List Int} (m : MS h ls tp) {t : Nat} (ht : t ≤ ls.length) : MS (hSet h 27 7 (t : Int)) (ls.take t) tp ∧ Fr MZ h (hSet h 27 7 (t : Int)) := by
  have F : Fr (fun b j => b = 27 ∧ j = 7) h (hSet h 27 7 (t : Int)) := Fr.set ⟨rfl, rfl⟩
  have q : ∀ b j : Int, b = 27 ∧ j = 7 → Mut b j := fun b j z => mutM (by unfold MutM; omega)
  exact ⟨⟨m.1.fr F q, m.2.1.take ht, (cN (by omega)).trans m.2.2.1, m.2.2.2.1, m.2.2.2.2.1, fun i hi => (cN (by omega)).trans (m.2.2.2.2.2 i hi)⟩, F.mo fun b j z => ⟨q b j z, by omega⟩⟩
theorem xC.sh {X : AH → Option (Int × AH)} {ls : List LN} {tp : List Int} {r : Int} {t : Nat} (ht : t ≤ ls.length) (c : ∀ h hw dw h', FUL h hw dw ls → Ledger_shorten 1 t h = some h' → FUL h' hw dw (ls.take t) → X h = some (r, h')) : xC X ls tp r (ls.take t) tp := fun h x => by
  obtain ⟨⟨hw, dw, U⟩, t1, t2, t3, t4⟩ := x
  obtain ⟨h', e, U', F⟩ := s_shorten U ht
  exact ⟨h', c h hw dw h' U e U', ⟨⟨hw, dw, U'⟩, (F.2 _ _ (by omega)).trans t1, t2, t3, fun i hi => (F.2 _ _ (by omega)).trans (t4 i hi)⟩, F.gr.mo fun b j z => by unfold CZ; omega⟩
theorem q_clear : sim (fun h => X_clear 0 h) (fun h => R_clear 27 h) := mk_sim fun ls tp ok => by
  refine ⟨(ls.length : Int), ls.take 0, tp, xC.sh (Nat.zero_le _) fun h hw dw h' U e U' => ?_, fun h m => ⟨_, ?_, (m.set7 (Nat.zero_le _))⟩⟩
  · have H := U.1.1
    show X_clear 0 h = _
    unfold X_clear
    refine gB H.t0 ?_
    rw [H.p0_0]
    refine gB H.t1 ?_
    refine gB H.t0 ?_
    refine gB H.t1 ?_
    refine cB e ?_
    rw [U.1.sz]
  · show R_clear 27 h = _
    unfold R_clear
    refine gB m.1.t27 ?_
    refine gB m.1.t27 ?_
    rw [m.2.1.1]
    rfl
theorem q_drop : sim (fun h => X_drop 0 h) (fun h => R_drop 27 h) := mk_sim fun ls tp ok => by
  by_cases q : ls.length = 0
  · refine ⟨-1, ls, tp, xC.keep fun h hw dw U t => ?_, rC.keep fun h m => ?_⟩
    · have H := U.1.1
      show X_drop 0 h = _
      unfold X_drop
      refine gB H.t0 ?_
      rw [H.p0_0]
      refine gB H.t1 ?_
      rw [U.1.sz]
      exact ifT (by omega) rfl
    · show R_drop 27 h = _
      unfold R_drop
      refine gB m.1.t27 ?_
      rw [m.2.1.1]
      exact ifT (by omega) rfl
  · have l60 := ok.1
    refine ⟨((ls.length - 1 : Nat) : Int), ls.take (ls.length - 1), tp, xC.sh (by omega) fun h hw dw h' U e U' => ?_, fun h m => ⟨_, ?_, (m.set7 (t := ls.length - 1) (by omega))⟩⟩
    · have H := U.1.1
      have H' := U'.1.1
      show X_drop 0 h = _
      unfold X_drop
      refine gB H.t0 ?_
      rw [H.p0_0]
      refine gB H.t1 ?_
      rw [U.1.sz]
      refine ifF (by omega) ?_
      refine gB H.t0 ?_
      refine gB H.t0 ?_
      refine gB H.t1 ?_
      refine gB H.t1 ?_
      rw [U.1.sz, w32_e (z := (ls.length : Int) - 1) (by omega), show (ls.length : Int) - 1 = ((ls.length - 1 : Nat) : Int) by omega]
      refine cB e ?_
      refine gB H'.t0 ?_
      rw [H'.p0_0]
      refine gB H'.t1 ?_
      rw [U'.1.sz, List.length_take, Nat.min_eq_left (by omega)]
    · show R_drop 27 h = _
      unfold R_drop
      refine gB m.1.t27 ?_
      rw [m.2.1.1]
      refine ifF (by omega) ?_
      refine gB m.1.t27 ?_
      refine gB m.1.t27 ?_
      rw [w32_e (by omega), show (ls.length : Int) - 1 = ((ls.length - 1 : Nat) : Int) by omega]
      refine gB (by rw [tS]; exact m.1.t27) ?_
      rw [cS]
theorem q_back {n : Int} (hn : i32 n) : sim (fun h => X_back 0 n h) (fun h => R_back 27 n h) := mk_sim fun ls tp ok => by
  unfold i32 at hn
  have l4 := ok.2.2.1
  by_cases q : 0 ≤ n ∧ n ≤ tp.length
  · have len : (tp.take (tp.length - n.toNat)).length = tp.length - n.toNat := by rw [List.length_take]; omega
    have tk : ∀ {h : AH} {o f a : Int}, a ≠ o → TP h o f a tp → TP (hSet h o f ((tp.length - n.toNat : Nat) : Int)) o f a (tp.take (tp.length - n.toNat)) := fun ne t => by
      refine ⟨by rw [cS, len], by omega, fun x hx => t.2.2.1 x (List.mem_of_mem_take hx), fun i hi => ?_⟩
      rw [cN (Or.inl ne), t.2.2.2 i (by omega), List.getD_eq_getElem?_getD, List.getD_eq_getElem?_getD, List.getElem?_take, if_pos (by omega)]
    refine ⟨((tp.length - n.toNat : Nat) : Int), ls, tp.take (tp.length - n.toNat), fun h x => ?_, fun h m => ?_⟩
    · obtain ⟨⟨hw, dw, U⟩, t⟩ := x
      have H := U.1.1
      have F : Fr (fun b j => b = 14 ∧ j = 1) h (hSet h 14 1 ((tp.length - n.toNat : Nat) : Int)) := Fr.set ⟨rfl, rfl⟩
      refine ⟨hSet h 14 1 ((tp.length - n.toNat : Nat) : Int), ?_, ⟨⟨hw, dw, U.frS F fun b j z => ⟨mutB (by unfold MutB; omega), by omega⟩⟩, tk (by omega) t⟩, F.gr.mo fun b j z => by unfold CZ; omega⟩
      show X_back 0 n h = _
      unfold X_back
      refine ifF (by omega) ?_
      refine gB H.t0 ?_
      rw [H.p0_2]
      refine gB H.t14 ?_
      rw [t.1]
      refine ifF (by omega) ?_
      refine gB H.t0 ?_
      refine gB H.t14 ?_
      refine gB H.t14 ?_
      rw [t.1, w32_e (by omega), show (tp.length : Int) - n = ((tp.length - n.toNat : Nat) : Int) by omega]
      refine gB (by rw [tS]; exact H.t0) ?_
      rw [cN (by omega), H.p0_2]
      refine gB (by rw [tS]; exact H.t14) ?_
      rw [cS]
    · have F : Fr (fun b j => b = 27 ∧ j = 24) h (hSet h 27 24 ((tp.length - n.toNat : Nat) : Int)) := Fr.set ⟨rfl, rfl⟩
      have mu : ∀ b j : Int, b = 27 ∧ j = 24 → Mut b j := fun b j z => mutM (by unfold MutM; omega)
      refine ⟨hSet h 27 24 ((tp.length - n.toNat : Nat) : Int), ?_, ⟨m.1.fr F mu, m.2.1.fr F (by omega) (fun b j x y => by omega), tk (by omega) m.2.2⟩, F.mo fun b j z => ⟨mu b j z, by omega⟩⟩
      show R_back 27 n h = _
      unfold R_back
      refine gB m.1.t27 ?_
      rw [m.2.2.1]
      refine rin_if ?_; rw [if_pos q]
      refine gB m.1.t27 ?_
      refine gB m.1.t27 ?_
      rw [w32_e (by omega), show (tp.length : Int) - n = ((tp.length - n.toNat : Nat) : Int) by omega]
      refine gB (by rw [tS]; exact m.1.t27) ?_
      rw [cS]
  · refine ⟨-1, ls, tp, xC.keep fun h hw dw U t => ?_, rC.keep fun h m => ?_⟩
    · have H := U.1.1
      show X_back 0 n h = _
      unfold X_back
      by_cases q1 : n < 0
      · exact ifT q1 rfl
      · refine ifF q1 ?_
        refine gB H.t0 ?_
        rw [H.p0_2]
        refine gB H.t14 ?_
        rw [t.1]
        exact ifT (by omega) rfl
    · show R_back 27 n h = _
      unfold R_back
      refine gB m.1.t27 ?_
      rw [m.2.2.1]
      refine rin_if ?_; rw [if_neg q]
