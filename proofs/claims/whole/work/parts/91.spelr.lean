/-! spell by the reference -/
def RSK (b j : Int) : Prop := b = 50 ∨ (b = 27 ∧ j = 33)
theorem RSK.q {b j : Int} (z : RSK b j) : Mut b j ∧ (b = 27 → j ≠ 7 ∧ j ≠ 24) ∧ (b < 33 ∨ 43 < b) ∧ b ≠ 48 := ⟨mutM (by unfold RSK at z; unfold MutM; omega), by unfold RSK at z; omega⟩
theorem RSK.mz {b j : Int} (z : RSK b j) : MZ b j := ⟨z.q.1, by unfold RSK at z; omega⟩
theorem r_sign {h : AH} (H : Sh h) {l : List Int} (t : TX h 27 33 50 l) (hl : l.length < 600) {c : Int} : ∃ h', R_writesSign 27 c h = some h' ∧ TX h' 27 33 50 (l ++ [c]) ∧ Fr RSK h h' := by
  refine ⟨_, ?_, t.push (by omega), (Fr.set (Or.inl rfl)).setT (Or.inr ⟨rfl, rfl⟩)⟩
  unfold R_writesSign
  refine gB H.t27 ?_
  rw [H.p27_32]
  refine gB H.t27 ?_
  rw [t.1]
  refine gB ⟨H.t50, by omega, by rw [H.l50]; omega⟩ ?_
  refine gB H.t27 ?_
  refine gB H.t27 ?_
  rw [cN (a := 50) (b := 27) (by omega), t.1, w32_e (z := (l.length : Int) + 1) (by omega)]
/-! words -/
def wfF : Nat → Nat → Nat → Option Nat
  | 0, _, _ => none
  | n + 1, i, k => if k = 0 then some i else if i < 49 then wfF n (i + 1) (if wdT.getD i 0 = 0 then k - 1 else k) else none
def wfN (k : Nat) : Nat := [0, 6, 12, 17, 23, 28, 33, 36, 41, 46].getD k 0
def nmR (k : Nat) : Nat := if k < 5 then nmS k else k
theorem wf_v : ∀ k : Nat, k < 10 → wfF 60 0 k = some (wfN k) := by decide
theorem wf_w : ∀ k : Nat, k < 10 → wfN k + (wdC (nmR k)).length < 49 ∧ wdT.getD (wfN k + (wdC (nmR k)).length) 0 = 0 ∧ ∀ i : Nat, i < 5 → i < (wdC (nmR k)).length → wdT.getD (wfN k + i) 0 = (wdC (nmR k)).getD i 0 ∧ (wdC (nmR k)).getD i 0 ≠ 0 := by decide
theorem nmR_lt : ∀ k : Nat, k < 10 → nmR k < 10 := by decide
theorem wf_run {h : AH} (H : Sh h) : ∀ (n f i k : Nat) (r : Nat), wfF n i k = some r → k < 100 → i < 100 → n < f → R_wordFrom_4 f 27 i k h = some (r : Int) := by
  intro n
  induction n with
  | zero => intro f i k r e; cases e
  | succ n ih =>
    intro f i k r e hk hi hf
    obtain ⟨f, rfl, hf⟩ := fu_pos hf
    unfold wfF at e
    unfold R_wordFrom_4
    by_cases k0 : k = 0
    · rw [if_pos k0] at e
      injection e with e
      subst e
      exact ifF (by omega) rfl
    · rw [if_neg k0] at e
      by_cases i49 : i < 49
      · rw [if_pos i49] at e
        refine ifT (by omega) ?_
        refine gB H.t27 ?_
        rw [H.p27_31]
        refine gB ⟨Or.inl H.t49, by omega, by rw [H.l49]; omega⟩ ?_
        rw [H.2.2.1 i i49, w32_e (z := (i : Int) + 1) (by omega), w32_e (z := (k : Int) + -1) (by omega)]
        by_cases z : wdT.getD i 0 = 0
        · rw [if_pos z] at e ⊢
          have := ih f (i + 1) (k - 1) r e (by omega) (by omega) (by omega)
          rw [show ((k - 1 : Nat) : Int) = (k : Int) + -1 by omega] at this
          exact this
        · rw [if_neg z] at e ⊢
          exact ih f (i + 1) k r e hk (by omega) (by omega)
      · rw [if_neg i49] at e; cases e
theorem rw_loop {l : List Int} {k : Nat} (hk : k < 10) (hl : l.length + 6 ≤ 600) : ∀ (n f i : Nat) (h : AH), i + n = (wdC (nmR k)).length → n < f → Sh h → TX h 27 33 50 (l ++ (wdC (nmR k)).take i) → ∃ h', R_writesWord_19 f 27 ((wfN k + i : Nat) : Int) h = some h' ∧ TX h' 27 33 50 (l ++ wdC (nmR k)) ∧ Fr RSK h h' := by
  have w5 := wdC_len (nmR k)
  obtain ⟨x1, x2, x3⟩ := wf_w k hk
  intro n
  induction n with
  | zero =>
    intro f i h hi hf H t
    obtain ⟨f, rfl, -⟩ := fu_pos hf
    rw [List.take_of_length_le (by omega)] at t
    refine ⟨h, ?_, t, Fr.rf⟩
    have : i = (wdC (nmR k)).length := by omega
    subst this
    unfold R_writesWord_19
    refine gB H.t27 ?_
    rw [H.p27_31]
    refine gB ⟨Or.inl H.t49, by omega, by rw [H.l49]; omega⟩ ?_
    rw [H.2.2.1 _ x1, x2]
    exact ifT rfl rfl
  | succ n ih =>
    intro f i h hi hf H t
    obtain ⟨f, rfl, hf⟩ := fu_pos hf
    obtain ⟨y1, y2⟩ := x3 i (by omega) (by omega)
    have tl : (l ++ (wdC (nmR k)).take i).length = l.length + i := by rw [List.length_append, List.length_take]; omega
    obtain ⟨h1, e1, t1, F1⟩ := r_sign H t (by omega) (c := (wdC (nmR k)).getD i 0)
    rw [List.append_assoc, ← tk_1 (by omega)] at t1
    obtain ⟨h2, e2, t2, F2⟩ := ih f (i + 1) h1 (by omega) (by omega) (H.fr F1 fun b j z => z.q.1) t1
    refine ⟨h2, ?_, t2, F1.tr F2⟩
    unfold R_writesWord_19
    refine gB H.t27 ?_
    rw [H.p27_31]
    refine gB ⟨Or.inl H.t49, by omega, by rw [H.l49]; omega⟩ ?_
    rw [H.2.2.1 (wfN k + i) (by omega), y1]
    refine ifF y2 ?_
    refine gB H.t27 ?_
    refine gB ⟨Or.inl H.t49, by omega, by rw [H.l49]; omega⟩ ?_
    rw [H.2.2.1 (wfN k + i) (by omega), y1]
    refine gB H.t27 ?_
    refine cB e1 ?_
    rw [w32_e (z := ((wfN k + i : Nat) : Int) + 1) (by omega), show ((wfN k + i : Nat) : Int) + 1 = ((wfN k + (i + 1) : Nat) : Int) by omega]
    exact e2
theorem r_word {h : AH} (H : Sh h) {l : List Int} (t : TX h 27 33 50 l) {k : Nat} (hk : k < 10) (hl : l.length + 7 ≤ 600) : ∃ h', R_writesWord 27 k h = some h' ∧ TX h' 27 33 50 (wdS l (nmR k)) ∧ Fr RSK h h' := by
  have w5 := wdC_len (nmR k)
  have go : ∀ (h : AH) (l : List Int), Sh h → TX h 27 33 50 l → l.length + 6 ≤ 600 → ∃ h', R_writesWord_13 27 k h = some h' ∧ TX h' 27 33 50 (l ++ wdC (nmR k)) ∧ Fr RSK h h' := by
    intro h l H t hl
    obtain ⟨h', e, t', F⟩ := rw_loop hk hl (wdC (nmR k)).length FU 0 h (by omega) (fu_big (by omega)) H (by rw [List.take_zero, List.append_nil]; exact t)
    refine ⟨h', ?_, t', F⟩
    unfold R_writesWord_13
    refine gB H.t27 ?_
    have := wf_run H 60 FU 0 k (wfN k) (wf_v k hk) (by omega) (by omega) (fu_big (by omega))
    have e2 : R_wordFrom 27 k h = some (wfN k : Int) := this
    exact cB e2 e
  unfold wdS
  by_cases q : l.length = 0
  · rw [if_pos q]
    obtain ⟨h', e, t', F⟩ := go h l H t (by omega)
    refine ⟨h', ?_, t', F⟩
    unfold R_writesWord
    refine gB H.t27 ?_
    rw [t.1]
    exact ifF (by omega) e
  · rw [if_neg q]
    obtain ⟨h1, e1, t1, F1⟩ := r_sign H t (by omega) (c := 32)
    obtain ⟨h', e, t', F⟩ := go h1 _ (H.fr F1 fun b j z => z.q.1) t1 (by rw [List.length_append]; show l.length + 1 + 6 ≤ 600; omega)
    refine ⟨h', ?_, t', F1.tr F⟩
    unfold R_writesWord
    refine gB H.t27 ?_
    rw [t.1]
    refine ifT (by omega) ?_
    refine gB H.t27 ?_
    exact cB e1 e
/-! numbers -/
theorem r24_loop {v : Nat} (hv : v ≤ 1000000000) : ∀ (k f : Nat) (h : AH) (l : List Int), k ≤ 9 → k + 1 < f → Sh h → TX h 27 33 50 l → l.length + k + 1 ≤ 600 → ∃ h', R_writes_24 f 27 v ((10 ^ k : Nat) : Int) h = some h' ∧ TX h' 27 33 50 (l ++ dgF v (k + 1)) ∧ Fr RSK h h' := by
  have st : ∀ (k f : Nat) (h : AH) (l : List Int), k ≤ 9 → Sh h → TX h 27 33 50 l → l.length + k + 1 ≤ 600 → ∃ h', R_writes_24 (f + 1) 27 v ((10 ^ k : Nat) : Int) h = R_writes_24 f 27 v (((10 ^ k : Nat) : Int) / 10) h' ∧ TX h' 27 33 50 (l ++ [((48 + v / 10 ^ k % 10 : Nat) : Int)]) ∧ Fr RSK h h' := by
    intro k f h l k9 H t hl
    have p := p10_pos k
    have p9 : 10 ^ k ≤ 10 ^ 9 := Nat.pow_le_pow_right (by omega) k9
    have dle : v / 10 ^ k ≤ v := Nat.div_le_self _ _
    have dm : v / 10 ^ k % 10 < 10 := Nat.mod_lt _ (by omega)
    have e1 : Int.tdiv (v : Int) ((10 ^ k : Nat) : Int) = ((v / 10 ^ k : Nat) : Int) := td_n
    have e2 : Int.tmod ((v / 10 ^ k : Nat) : Int) 10 = ((v / 10 ^ k % 10 : Nat) : Int) := tm_n (b := 10)
    obtain ⟨h1, g1, t1, F1⟩ := r_sign H t (by omega) (c := ((48 + v / 10 ^ k % 10 : Nat) : Int))
    refine ⟨h1, ?_, t1, F1⟩
    conv => lhs; unfold R_writes_24
    refine ifT (by omega) ?_
    refine gB (by omega) ?_
    rw [e1, w32_n (n := v / 10 ^ k) (Nat.lt_of_le_of_lt dle (by omega))]
    refine gB (by omega) ?_
    rw [e2]
    refine gB H.t27 ?_
    rw [w32_e (z := 48 + ((v / 10 ^ k % 10 : Nat) : Int)) (by omega), show 48 + ((v / 10 ^ k % 10 : Nat) : Int) = ((48 + v / 10 ^ k % 10 : Nat) : Int) by omega]
    refine cB g1 ?_
    refine gB (by omega) ?_
    rw [td_e (by omega), w32_e (by omega)]
  intro k
  induction k with
  | zero =>
    intro f h l k9 hf H t hl
    obtain ⟨f, rfl, hf⟩ := fu_pos (show 0 < f by omega)
    obtain ⟨h1, e1, t1, F1⟩ := st 0 f h l k9 H t hl
    refine ⟨h1, ?_, t1, F1⟩
    rw [e1]
    obtain ⟨f, rfl, -⟩ := fu_pos (show 0 < f by omega)
    unfold R_writes_24
    exact ifF (by decide) rfl
  | succ k ih =>
    intro f h l k9 hf H t hl
    obtain ⟨f, rfl, hf⟩ := fu_pos (show 0 < f by omega)
    obtain ⟨h1, e1, t1, F1⟩ := st (k + 1) f h l k9 H t hl
    rw [p10_dv] at e1
    obtain ⟨h2, e2, t2, F2⟩ := ih f h1 _ (by omega) (by omega) (H.fr F1 fun b j z => z.q.1) t1 (by rw [List.length_append]; show l.length + 1 + k + 1 ≤ 600; omega)
    refine ⟨h2, e1.trans e2, ?_, F1.tr F2⟩
    rw [List.append_assoc] at t2
    exact t2
theorem r8_loop {h : AH} {v : Nat} (hv : v ≤ 1000000000) : ∀ (n f j : Nat), j + n = 9 → n < f → (j = 0 ∨ 10 ^ j ≤ v) → R_writes_8 f 27 v ((10 ^ j : Nat) : Int) h = R_writes_24 FU 27 v ((10 ^ (ndF v 9 - 1) : Nat) : Int) h := by
  have h10 : v < 10 ^ (9 + 1) := Nat.lt_of_le_of_lt hv (by decide)
  obtain ⟨d1, d2⟩ := nd_is 9 h10
  have d3 := nd_le v 9
  intro n
  induction n with
  | zero =>
    intro f j hj hf c
    obtain ⟨f, rfl, hf⟩ := fu_pos hf
    have : j = 9 := by omega
    subst this
    have e1 : Int.tdiv (v : Int) ((10 ^ 9 : Nat) : Int) = ((v / 10 ^ 9 : Nat) : Int) := td_n
    have dv : v / 10 ^ 9 < 10 := dv10 h10
    have p := p10_pos 9
    unfold R_writes_8
    refine gB (by omega) ?_
    rw [e1, w32_n (n := v / 10 ^ 9) (by omega)]
    refine ifF (by omega) ?_
    have := nd_uniq (a := ndF v 9) (b := 9 + 1) d1 d3.1 (by omega) (by omega)
    rw [show ndF v 9 - 1 = 9 by omega]
  | succ n ih =>
    intro f j hj hf c
    obtain ⟨f, rfl, hf⟩ := fu_pos hf
    have p := p10_pos j
    have p8 : 10 ^ j ≤ 10 ^ 8 := Nat.pow_le_pow_right (by omega) (by omega)
    have dle : v / 10 ^ j ≤ v := Nat.div_le_self _ _
    have e1 : Int.tdiv (v : Int) ((10 ^ j : Nat) : Int) = ((v / 10 ^ j : Nat) : Int) := td_n
    unfold R_writes_8
    refine gB (by omega) ?_
    rw [e1, w32_n (n := v / 10 ^ j) (Nat.lt_of_le_of_lt dle (by omega))]
    by_cases q : 9 < v / 10 ^ j
    · refine ifT (by omega) ?_
      rw [w32_e (by omega), show ((10 ^ j : Nat) : Int) * 10 = ((10 ^ (j + 1) : Nat) : Int) by rw [Nat.pow_succ]; omega]
      refine ih f (j + 1) (by omega) (by omega) (Or.inr ?_)
      rw [Nat.pow_succ]
      have := Nat.mul_le_of_le_div _ _ _ (show 10 ≤ v / 10 ^ j by omega)
      rw [Nat.mul_comm]
      exact this
    · refine ifF (by omega) ?_
      have lt : v < 10 ^ (j + 1) := by
        rw [Nat.pow_succ]
        exact (Nat.div_lt_iff_lt_mul p).mp (show v / 10 ^ j < 10 by omega) |> fun z => by rw [Nat.mul_comm]; exact z
      have a1 := nd_uniq lt (by omega) d3.1 d2
      have a2 := nd_uniq (b := j + 1) d1 d3.1 (by omega) (by
        rcases c with z | z
        · exact Or.inl (by omega)
        · exact Or.inr z)
      rw [show ndF v 9 - 1 = j by omega]
theorem r_int {h : AH} (H : Sh h) {l : List Int} (t : TX h 27 33 50 l) {v : Int} (hv : 0 ≤ v ∧ v ≤ 1000000000) (hl : l.length + 11 ≤ 600) : ∃ h', R_writes 27 v h = some h' ∧ TX h' 27 33 50 (inS l v.toNat) ∧ Fr RSK h h' := by
  obtain ⟨v, rfl⟩ := Int.eq_ofNat_of_zero_le hv.1
  rw [Int.toNat_natCast]
  have d3 := nd_le v 9
  obtain ⟨h1, e1, t1, F1⟩ := r_sign H t (by omega) (c := 32)
  obtain ⟨h2, e2, t2, F2⟩ := r24_loop (v := v) (by omega) (ndF v 9 - 1) FU h1 _ (by omega) (fu_big (by omega)) (H.fr F1 fun b j z => z.q.1) t1 (by rw [List.length_append]; show l.length + 1 + (ndF v 9 - 1) + 1 ≤ 600; omega)
  rw [show ndF v 9 - 1 + 1 = ndF v 9 by omega] at t2
  refine ⟨h2, ?_, t2, F1.tr F2⟩
  unfold R_writes
  refine gB H.t27 ?_
  refine cB e1 ?_
  have := r8_loop (h := h1) (v := v) (by omega) 9 FU 0 (by omega) (fu_big (by omega)) (Or.inl rfl)
  exact this.trans e2
/-! lines -/
def QS (h0 h : AH) (ls : List LN) (tp t : List Int) : Prop := MS h ls tp ∧ TX h 27 33 50 t ∧ Fr RSK h0 h
section QS
variable {h0 h : AH} {ls : List LN} {tp t : List Int}
theorem QS.word (W : QS h0 h ls tp t) {k : Nat} (hk : k < 10) (hl : t.length + 7 ≤ 600) : ∃ h', R_writesWord 27 k h = some h' ∧ QS h0 h' ls tp (wdS t (nmR k)) := by
  obtain ⟨h', e, t', F⟩ := r_word W.1.1 W.2.1 hk hl
  exact ⟨h', e, W.1.frQ F fun b j => RSK.q, t', W.2.2.tr F⟩
theorem QS.int (W : QS h0 h ls tp t) {v : Int} (hv : 0 ≤ v ∧ v ≤ 1000000000) (hl : t.length + 11 ≤ 600) : ∃ h', R_writes 27 v h = some h' ∧ QS h0 h' ls tp (inS t v.toNat) ∧ (inS t v.toNat).length ≤ t.length + 11 := by
  obtain ⟨h', e, t', F⟩ := r_int W.1.1 W.2.1 hv hl
  have p : (10 : Nat) ^ 10 = 10000000000 := by decide
  have := inS_len (l := t) (v := v.toNat) (k := 10) (by omega) (by omega) (by omega)
  exact ⟨h', e, ⟨W.1.frQ F fun b j => RSK.q, t', W.2.2.tr F⟩, by omega⟩
theorem QS.sign (W : QS h0 h ls tp t) {c : Int} (hl : t.length < 600) : ∃ h', R_writesSign 27 c h = some h' ∧ QS h0 h' ls tp (t ++ [c]) := by
  obtain ⟨h', e, t', F⟩ := r_sign W.1.1 W.2.1 hl
  exact ⟨h', e, W.1.frQ F fun b j => RSK.q, t', W.2.2.tr F⟩
end QS
theorem rwu_loop {h0 : AH} {ls : List LN} {tp : List Int} {k : Nat} (hk : k < ls.length) : ∀ (n f i : Nat) (h : AH) (t : List Int), i + n = (gl ls k).2.2.length → n < f → QS h0 h ls tp t → t.length + 22 * n + 1 ≤ 600 → ∃ h', R_writesLine_193 f 27 k ((9 * k + i : Nat) : Int) h = some h' ∧ QS h0 h' ls tp (rwS false t ((gl ls k).2.2.drop i) ++ [59]) := by
  intro n
  induction n with
  | zero =>
    intro f i h t hi hf W hl
    obtain ⟨f, rfl, -⟩ := fu_pos hf
    have H := W.1.1
    have l60 := W.1.2.1.2.1
    obtain ⟨-, -, u1, u9, -⟩ := (W.1.2.1.2.2 k hk).1
    obtain ⟨h', e, W'⟩ := W.sign (c := 59) (by omega)
    rw [dr_e (by omega)]
    refine ⟨h', ?_, W'⟩
    unfold R_writesLine_193
    refine gB H.t27 ?_
    rw [H.p27_13]
    refine gB ⟨H.t38, by omega, by rw [H.l38]; omega⟩ ?_
    rw [u1, w32_e (z := 9 * (k : Int)) (by omega), w32_e (z := 9 * (k : Int) + (gl ls k).2.2.length) (by omega)]
    refine ifF (by omega) ?_
    refine gB H.t27 ?_
    exact cB e rfl
  | succ n ih =>
    intro f i h t hi hf W hl
    obtain ⟨f, rfl, hf⟩ := fu_pos hf
    have H := W.1.1
    have l60 := W.1.2.1.2.1
    have hi' : i < (gl ls k).2.2.length := by omega
    obtain ⟨-, -, u1, u9, u2⟩ := (W.1.2.1.2.2 k hk).1
    obtain ⟨q1, -, q3, -⟩ := ((W.1.2.1.2.2 k hk).2.2.2.2.2.1 _ (gt_mem hi')).1.q
    obtain ⟨h1, e1, W1, b1⟩ := W.int q1 (by omega)
    obtain ⟨-, -, -, -, v2⟩ := (W1.1.2.1.2.2 k hk).1
    obtain ⟨h2, e2, W2, b2⟩ := W1.int q3 (by omega)
    obtain ⟨h3, e3, W3⟩ := ih f (i + 1) h2 _ (by omega) (by omega) W2 (by omega)
    have c1 := (u2 i hi').1
    have c2 := (v2 i hi').2
    rw [show 9 * (k : Int) + i = ((9 * k + i : Nat) : Int) by omega] at c1 c2
    have H1 := W1.1.1
    rw [gt_dr hi']
    refine ⟨h3, ?_, W3⟩
    unfold R_writesLine_193
    refine gB H.t27 ?_
    rw [H.p27_13]
    refine gB ⟨H.t38, by omega, by rw [H.l38]; omega⟩ ?_
    rw [u1, w32_e (z := 9 * (k : Int)) (by omega), w32_e (z := 9 * (k : Int) + (gl ls k).2.2.length) (by omega)]
    refine ifT (by omega) ?_
    refine gB H.t27 ?_
    rw [H.p27_17]
    refine gB ⟨H.t42, by omega, by rw [H.l42]; omega⟩ ?_
    rw [c1]
    refine gB H.t27 ?_
    refine cB e1 ?_
    refine gB H1.t27 ?_
    rw [H1.p27_18]
    refine gB ⟨H1.t43, by omega, by rw [H1.l43]; omega⟩ ?_
    rw [c2]
    refine gB H1.t27 ?_
    refine cB e2 ?_
    rw [w32_e (z := ((9 * k + i : Nat) : Int) + 1) (by omega), show ((9 * k + i : Nat) : Int) + 1 = ((9 * k + (i + 1) : Nat) : Int) by omega]
    exact e3
/-- behind the DOWN ROWS -/
def r121 (k : Nat) (v2 : Int) (h : AH) : Option AH := if v2 = 4 then (gd (hTy h 27 = 10) 0).bind fun _ => (R_writesWord 27 9 h).bind fun h16 => R_writesLine_193 FU 27 k (w32 (9 * (k : Int))) h16 else R_writesLine_193 FU 27 k (w32 (9 * (k : Int))) h
theorem rwd_loop {h0 : AH} {ls : List LN} {tp : List Int} {k : Nat} (hk : k < ls.length) {s : Int} {b : Bool} (hb : b = true ↔ s ≠ 1) : ∀ (n f i : Nat) (h : AH) (t : List Int), i + n = (gl ls k).2.1.length → n < f → QS h0 h ls tp t → t.length + 33 * n ≤ 600 → ∃ h', R_writesLine_121 f 27 k s ((9 * k + i : Nat) : Int) h = r121 k s h' ∧ QS h0 h' ls tp (rwS b t ((gl ls k).2.1.drop i)) ∧ (rwS b t ((gl ls k).2.1.drop i)).length ≤ t.length + 33 * n := by
  intro n
  induction n with
  | zero =>
    intro f i h t hi hf W hl
    obtain ⟨f, rfl, -⟩ := fu_pos hf
    have H := W.1.1
    have l60 := W.1.2.1.2.1
    obtain ⟨-, ⟨d1, d9, -⟩, -⟩ := (W.1.2.1.2.2 k hk).1
    rw [dr_e (by omega)]
    refine ⟨h, ?_, W, Nat.le_refl _⟩
    unfold R_writesLine_121 r121
    refine gB H.t27 ?_
    rw [H.p27_12]
    refine gB ⟨H.t37, by omega, by rw [H.l37]; omega⟩ ?_
    rw [d1, w32_e (z := 9 * (k : Int)) (by omega), w32_e (z := 9 * (k : Int) + (gl ls k).2.1.length) (by omega)]
    exact ifF (by omega) rfl
  | succ n ih =>
    intro f i h t hi hf W hl
    obtain ⟨f, rfl, hf⟩ := fu_pos hf
    have H := W.1.1
    have l60 := W.1.2.1.2.1
    have hi' : i < (gl ls k).2.1.length := by omega
    obtain ⟨-, ⟨d1, d9, d2, -⟩, -⟩ := (W.1.2.1.2.2 k hk).1
    have okr := (W.1.2.1.2.2 k hk).2.2.2.2.1 _ (gt_mem hi')
    obtain ⟨q1, -, q3, -⟩ := okr.1.q
    obtain ⟨q5, -⟩ := okr.2.q
    obtain ⟨h1, e1, W1, b1⟩ := W.int q1 (by omega)
    obtain ⟨-, ⟨-, -, v2, -⟩, -⟩ := (W1.1.2.1.2.2 k hk).1
    obtain ⟨h2, e2, W2, b2⟩ := W1.int q3 (by omega)
    obtain ⟨-, ⟨-, -, -, v3⟩, -⟩ := (W2.1.2.1.2.2 k hk).1
    have c1 := (d2 i hi').1
    have c2 := (v2 i hi').2
    have c3 := v3 i hi'
    rw [show 9 * (k : Int) + i = ((9 * k + i : Nat) : Int) by omega] at c1 c2 c3
    have H1 := W1.1.1
    have H2 := W2.1.1
    have pre : ∀ {r}, (if s = 1 then R_writesLine_121 f 27 k s ((9 * k + (i + 1) : Nat) : Int) h2 else ((R_writes 27 (gt (gl ls k).2.1 i).2.2 h2).bind fun h14 => R_writesLine_121 f 27 k s ((9 * k + (i + 1) : Nat) : Int) h14)) = r → R_writesLine_121 (f + 1) 27 k s ((9 * k + i : Nat) : Int) h = r := by
      rintro r rfl
      conv => lhs; unfold R_writesLine_121
      refine gB H.t27 ?_
      rw [H.p27_12]
      refine gB ⟨H.t37, by omega, by rw [H.l37]; omega⟩ ?_
      rw [d1, w32_e (z := 9 * (k : Int)) (by omega), w32_e (z := 9 * (k : Int) + (gl ls k).2.1.length) (by omega)]
      refine ifT (by omega) ?_
      refine gB H.t27 ?_
      rw [H.p27_14]
      refine gB ⟨H.t39, by omega, by rw [H.l39]; omega⟩ ?_
      rw [c1]
      refine gB H.t27 ?_
      refine cB e1 ?_
      refine gB H1.t27 ?_
      rw [H1.p27_15]
      refine gB ⟨H1.t40, by omega, by rw [H1.l40]; omega⟩ ?_
      rw [c2]
      refine gB H1.t27 ?_
      refine cB e2 ?_
      rw [w32_e (z := ((9 * k + i : Nat) : Int) + 1) (by omega), show ((9 * k + i : Nat) : Int) + 1 = ((9 * k + (i + 1) : Nat) : Int) by omega]
      by_cases s1 : s = 1
      · rw [if_pos s1, if_pos s1]
      · rw [if_neg s1, if_neg s1]
        refine gB H2.t27 ?_
        rw [H2.p27_16]
        refine gB ⟨H2.t41, by omega, by rw [H2.l41]; omega⟩ ?_
        rw [c3]
        exact gB H2.t27 rfl
    rw [gt_dr hi']
    cases b with
    | false =>
      have s1 : s = 1 := Classical.byContradiction fun z => by cases hb.mpr z
      obtain ⟨h3, e3, W3, b3⟩ := ih f (i + 1) h2 _ (by omega) (by omega) W2 (by omega)
      exact ⟨h3, pre ((if_pos s1).trans e3), W3, Nat.le_trans b3 (by omega)⟩
    | true =>
      have s1 : ¬ s = 1 := hb.mp rfl
      obtain ⟨h4, e4, W4, b4⟩ := W2.int q5 (by omega)
      obtain ⟨h3, e3, W3, b3⟩ := ih f (i + 1) h4 _ (by omega) (by omega) W4 (by omega)
      exact ⟨h3, pre ((if_neg s1).trans (cB e4 e3)), W3, Nat.le_trans b3 (by omega)⟩
