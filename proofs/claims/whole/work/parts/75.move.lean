/-! move -/
def mvI (a b i : Nat) : Nat := if i = b then a else if a ≤ i ∧ i < b then i + 1 else if b < i ∧ i ≤ a then i - 1 else i
theorem mvI_lt {a b i n : Nat} (ha : a < n) (hb : b < n) (hi : i < n) : mvI a b i < n := by
  unfold mvI
  split
  · exact ha
  · split
    · omega
    · split <;> omega
theorem mvI_in {a b i : Nat} : mvI b a (mvI a b i) = i := by
  unfold mvI
  by_cases q : i = b
  · rw [if_pos q, if_pos rfl]; exact q.symm
  rw [if_neg q]
  by_cases q2 : a ≤ i ∧ i < b
  · rw [if_pos q2, if_neg (by omega), if_neg (by omega), if_pos (by omega)]; omega
  rw [if_neg q2]
  by_cases q3 : b < i ∧ i ≤ a
  · rw [if_pos q3, if_neg (by omega), if_pos (by omega)]; omega
  rw [if_neg q3, if_neg (by omega), if_neg (by omega), if_neg (by omega)]
theorem mvI_hi {a b i n : Nat} (ha : a < n) (hb : b < n) (hi : n ≤ i) : mvI a b i = i := by
  unfold mvI
  rw [if_neg (by omega), if_neg (by omega), if_neg (by omega)]
theorem mvI_lo {a b i : Nat} (h1 : i < a) (h2 : i < b) : mvI a b i = i := by
  unfold mvI
  rw [if_neg (by omega), if_neg (by omega), if_neg (by omega)]
def mvL (ls : List LN) (a b : Nat) : List LN := (List.range ls.length).map fun i => gl ls (mvI a b i)
theorem mvL_len {ls : List LN} {a b : Nat} : (mvL ls a b).length = ls.length := by unfold mvL; rw [List.length_map, List.length_range]
theorem mvL_gl {ls : List LN} {a b i : Nat} (hi : i < ls.length) : gl (mvL ls a b) i = gl ls (mvI a b i) := by
  conv => lhs; unfold gl mvL
  rw [List.getD_eq_getElem?_getD, List.getElem?_map, List.getElem?_range hi]
  rfl
def PT (h : AH) : Prop := ∀ q : Nat, q < 60 → hCe h 2 q < 0 ∨ hTy h (hCe h 2 q) = 4
theorem PT.set {h : AH} (p : PT h) {i j : Nat} (hj : j < 60) : PT (hSet h 2 i (hCe h 2 j)) := fun q hq => by
  rw [tS]
  by_cases z : q = i
  · subst z; rw [cS]; exact p j hj
  · rw [cN (by omega)]; exact p q hq
theorem S2 {h h' : AH} (H : Sh h) (F : Fr (fun b _ => b = 2) h h') : Sh h' := H.fr F fun b j z => mutA (by unfold MutA; omega)
theorem sh_up {a b n : Nat} (hb : b = a + n) (b60 : b < 60) {t : Int} : ∀ (m f i : Nat) (h : AH), i + m = n → m < f → Sh h → PT h → (t < 0 ∨ hTy h t = 4) → ∃ h', Ledger_shift_47 f 1 a b t 1 n i h = some h' ∧ Fr (fun b _ => b = 2) h h' ∧ ∀ q : Nat, hCe h' 2 q = if q = b then t else if a + i ≤ q ∧ q < b then hCe h 2 ((q + 1 : Nat) : Int) else hCe h 2 q := by
  intro m
  induction m with
  | zero =>
    intro f i h hi hf H p ht
    obtain ⟨f, rfl, -⟩ := fu_pos hf
    refine ⟨hSet h 2 b t, ?_, Fr.set rfl, fun q => ?_⟩
    · unfold Ledger_shift_47
      refine ifF (by omega) ?_
      refine gB H.t1 ?_
      rw [H.p1_0]
      exact gB ⟨⟨H.t2, by omega, by rw [H.l2]; omega⟩, ht⟩ rfl
    · by_cases z : q = b
      · subst z; rw [cS, if_pos rfl]
      · rw [cN (by omega), if_neg z, if_neg (by omega)]
  | succ m ih =>
    intro f i h hi hf H p ht
    obtain ⟨f, rfl, hf⟩ := fu_pos hf
    have F1 : Fr (fun b _ => b = 2) h (hSet h 2 ((a + i : Nat) : Int) (hCe h 2 ((a + i + 1 : Nat) : Int))) := Fr.set rfl
    obtain ⟨h', e', F', v'⟩ := ih f (i + 1) _ (by omega) (by omega) (S2 H F1) (p.set (i := a + i) (j := a + i + 1) (by omega)) ht
    refine ⟨h', ?_, F1.tr F', fun q => ?_⟩
    · rw [← e']
      conv => lhs; unfold Ledger_shift_47
      refine ifT (by omega) ?_
      refine gB H.t1 ?_
      refine gB H.t1 ?_
      rw [H.p1_0, w32_e (z := (i : Int) + 1) (by omega), w32_e (z := ((i : Int) + 1) * 1) (by omega), w32_e (z := (i : Int) * 1) (by omega), w32_e (z := (a : Int) + ((i : Int) + 1) * 1) (by omega), w32_e (z := (a : Int) + (i : Int) * 1) (by omega)]
      rw [show (a : Int) + ((i : Int) + 1) * 1 = ((a + i + 1 : Nat) : Int) by omega, show (a : Int) + (i : Int) * 1 = ((a + i : Nat) : Int) by omega]
      refine gB ⟨H.t2, by omega, by rw [H.l2]; omega⟩ ?_
      refine gB ⟨⟨H.t2, by omega, by rw [H.l2]; omega⟩, p (a + i + 1) (by omega)⟩ ?_
      rfl
    · rw [v' q]
      by_cases z : q = b
      · rw [if_pos z, if_pos z]
      rw [if_neg z, if_neg z]
      by_cases z2 : q = a + i
      · subst z2; rw [if_neg (by omega), cS, if_pos (by omega)]
      by_cases z3 : a + (i + 1) ≤ q ∧ q < b
      · rw [if_pos z3, cN (by omega), if_pos (by omega)]
      · rw [if_neg z3, cN (by omega), if_neg (by omega)]
theorem sh_dn {a b n : Nat} (hb : a = b + n) (a60 : a < 60) {t : Int} : ∀ (m f i : Nat) (h : AH), i + m = n → m < f → Sh h → PT h → (t < 0 ∨ hTy h t = 4) → ∃ h', Ledger_shift_47 f 1 a b t (-1) n i h = some h' ∧ Fr (fun b _ => b = 2) h h' ∧ ∀ q : Nat, hCe h' 2 q = if q = b then t else if b < q ∧ q + i ≤ a then hCe h 2 ((q - 1 : Nat) : Int) else hCe h 2 q := by
  intro m
  induction m with
  | zero =>
    intro f i h hi hf H p ht
    obtain ⟨f, rfl, -⟩ := fu_pos hf
    refine ⟨hSet h 2 b t, ?_, Fr.set rfl, fun q => ?_⟩
    · unfold Ledger_shift_47
      refine ifF (by omega) ?_
      refine gB H.t1 ?_
      rw [H.p1_0]
      exact gB ⟨⟨H.t2, by omega, by rw [H.l2]; omega⟩, ht⟩ rfl
    · by_cases z : q = b
      · subst z; rw [cS, if_pos rfl]
      · rw [cN (by omega), if_neg z, if_neg (by omega)]
  | succ m ih =>
    intro f i h hi hf H p ht
    obtain ⟨f, rfl, hf⟩ := fu_pos hf
    have F1 : Fr (fun b _ => b = 2) h (hSet h 2 ((a - i : Nat) : Int) (hCe h 2 ((a - i - 1 : Nat) : Int))) := Fr.set rfl
    obtain ⟨h', e', F', v'⟩ := ih f (i + 1) _ (by omega) (by omega) (S2 H F1) (p.set (i := a - i) (j := a - i - 1) (by omega)) ht
    refine ⟨h', ?_, F1.tr F', fun q => ?_⟩
    · rw [← e']
      conv => lhs; unfold Ledger_shift_47
      refine ifT (by omega) ?_
      refine gB H.t1 ?_
      refine gB H.t1 ?_
      rw [H.p1_0, w32_e (z := (i : Int) + 1) (by omega), w32_e (z := ((i : Int) + 1) * -1) (by omega), w32_e (z := (i : Int) * -1) (by omega), w32_e (z := (a : Int) + ((i : Int) + 1) * -1) (by omega), w32_e (z := (a : Int) + (i : Int) * -1) (by omega)]
      rw [show (a : Int) + ((i : Int) + 1) * -1 = ((a - i - 1 : Nat) : Int) by omega, show (a : Int) + (i : Int) * -1 = ((a - i : Nat) : Int) by omega]
      refine gB ⟨H.t2, by omega, by rw [H.l2]; omega⟩ ?_
      refine gB ⟨⟨H.t2, by omega, by rw [H.l2]; omega⟩, p (a - i - 1) (by omega)⟩ ?_
      rfl
    · rw [v' q]
      by_cases z : q = b
      · rw [if_pos z, if_pos z]
      rw [if_neg z, if_neg z]
      by_cases z2 : q = a - i
      · subst z2; rw [if_neg (by omega), cS, if_pos (by omega)]
      by_cases z3 : b < q ∧ q + (i + 1) ≤ a
      · rw [if_pos z3, cN (by omega), if_pos (by omega)]
      · rw [if_neg z3, cN (by omega), if_neg (by omega)]
theorem s_shift {h : AH} {hw dw : Nat} {ls : List LN} (C : CL h hw dw ls) {a b : Nat} (ha : a < ls.length) (hb : b < ls.length) (ne : a ≠ b) : ∃ h', Ledger_shift 1 a b h = some h' ∧ Fr (fun b _ => b = 2) h h' ∧ ∀ q : Nat, hCe h' 2 q = hCe h 2 ((mvI a b q : Nat) : Int) := by
  have H := C.1
  have l60 := C.len
  obtain ⟨o1, o2, o3, o4, o5, o6, o7, o8, o9, o10⟩ := id C.2.1
  have le := C.2.2.1
  have pt : PT h := fun q hq => by
    rcases Nat.lt_or_ge q hw with y | y
    · exact Or.inr (C.2.1.blk H (o4 q y)).1.1
    · exact Or.inl (by rw [o5 q y hq]; omega)
  have pa : hCe h 2 a < 0 ∨ hTy h (hCe h 2 a) = 4 := pt a (by omega)
  have st : ∀ {r}, (if (a : Int) < b then Ledger_shift_34 1 a b (hCe h 2 a) 1 h else Ledger_shift_34 1 a b (hCe h 2 a) (-1) h) = r → Ledger_shift 1 a b h = r := by
    rintro r rfl
    unfold Ledger_shift
    refine gB H.t1 ?_
    refine has_if C ?_
    rw [if_pos (by omega)]
    refine gB H.t1 ?_
    refine has_if C ?_
    rw [if_pos (by omega)]
    refine gB H.t1 ?_
    rw [H.p1_0]
    exact C.lnA ha rfl
  have ab : Math_abs (w32 ((b : Int) - a)) = some ((if a < b then b - a else a - b : Nat) : Int) := by
    unfold Math_abs
    rw [w32_e (by omega)]
    by_cases q : a < b
    · rw [if_pos q, if_neg (by omega)]; congr 1; omega
    · rw [if_neg q, if_pos (by omega), w32_e (by omega)]; congr 1; omega
  by_cases q : a < b
  · obtain ⟨h', e', F', v'⟩ := sh_up (a := a) (b := b) (n := b - a) (by omega) (by omega) (t := hCe h 2 a) (b - a) FU 0 h (by omega) (fu_big (by omega)) H pt pa
    refine ⟨h', st ((if_pos (by omega)).trans ?_), F', fun i => ?_⟩
    · unfold Ledger_shift_34
      refine cB ab ?_
      rw [if_pos q]
      exact e'
    · rw [v' i]
      unfold mvI
      by_cases z : i = b
      · rw [if_pos z, if_pos z]
      rw [if_neg z, if_neg z]
      by_cases z2 : a ≤ i ∧ i < b
      · rw [if_pos (by omega), if_pos z2]
      · rw [if_neg (by omega), if_neg z2, if_neg (by omega)]
  · obtain ⟨h', e', F', v'⟩ := sh_dn (a := a) (b := b) (n := a - b) (by omega) (by omega) (t := hCe h 2 a) (a - b) FU 0 h (by omega) (fu_big (by omega)) H pt pa
    refine ⟨h', st ((if_neg (by omega)).trans ?_), F', fun i => ?_⟩
    · unfold Ledger_shift_34
      refine cB ab ?_
      rw [if_neg q]
      exact e'
    · rw [v' i]
      unfold mvI
      by_cases z : i = b
      · rw [if_pos z, if_pos z]
      rw [if_neg z, if_neg z, if_neg (show ¬ (a ≤ i ∧ i < b) by omega)]
      by_cases z2 : b < i ∧ i ≤ a
      · rw [if_pos (by omega), if_pos z2]
      · rw [if_neg (by omega), if_neg z2]
/-- pointers changed places -/
theorem CL.moved {h h' : AH} {hw dw : Nat} {ls : List LN} (C : CL h hw dw ls) {a b : Nat} (ha : a < ls.length) (hb : b < ls.length) (F : Fr (fun b _ => b = 2) h h') (v : ∀ q : Nat, hCe h' 2 q = hCe h 2 ((mvI a b q : Nat) : Int)) : CL h' hw dw (mvL ls a b) := by
  have le := C.2.2.1
  obtain ⟨o1, o2, o3, o4, o5, o6, o7, o8, o9, o10⟩ := id C.2.1
  have lt : ∀ {q : Nat}, q < hw → mvI a b q < hw := fun {q} hq => mvI_lt (by omega) (by omega) hq
  have inj : ∀ {i j : Nat}, mvI a b i = mvI a b j → i = j := fun {i j} z => by
    have := congrArg (mvI b a) z
    rw [mvI_in, mvI_in] at this
    exact this
  have c13 : ∀ j, hCe h' 13 j = hCe h 13 j := fun j => F.2 _ _ (by omega)
  refine ⟨S2 C.1 F, ⟨o1, o2, F.1.nx.trans o3, fun i hi => by rw [v]; exact o4 _ (lt hi), fun i a1 a2 => ?_, fun i hi => by rw [c13]; exact o6 i hi, fun i a1 a2 => by rw [c13]; exact o7 i a1 a2, fun i j a1 a2 a3 => ?_, fun i j a1 a2 a3 => ?_, fun i j a1 a2 => ?_⟩, by rw [mvL_len]; exact le, by rw [mvL_len, F.2 _ _ (by omega)]; exact C.sz, fun i hi => ?_⟩
  · rw [v, mvI_hi (show a < hw by omega) (show b < hw by omega) a1]; exact o5 i a1 a2
  · rw [v, v] at a3
    exact inj (o8 _ _ (lt a1) (lt a2) a3)
  · rw [c13, c13] at a3; exact o9 i j a1 a2 a3
  · rw [v, c13]; exact o10 _ j (lt a1) a2
  · rw [mvL_len] at hi
    have mi : mvI a b i < ls.length := mvI_lt ha hb hi
    have p := C.pr mi
    rw [mvL_gl hi, v]
    refine ⟨(C.ln mi).fr F fun b j x y _ => by omega, C.ok mi, ?_⟩
    unfold ltOK
    rw [F.2 _ _ (by omega)]
    exact C.lt mi
theorem mv_x (hM : MRok) {h : AH} {hw dw : Nat} {ls : List LN} (U : FUL h hw dw ls) {a b : Nat} (ha : a < ls.length) (hb : b < ls.length) (ne : a ≠ b) : ∃ h', X_move 0 a b h = some (b2i (rtS (mvL ls a b) b), h') ∧ FUL h' hw dw (mvL ls a b) ∧ Gr BP h h' := by
  obtain ⟨C, S, m, B⟩ := U
  have H := C.1
  have l60 := C.len
  obtain ⟨h1, e1, F1, v1⟩ := s_shift C ha hb ne
  have C1 := C.moved ha hb F1 v1
  have g : ∀ k, k < (if b < a then b else a) → gl ls k = gl (mvL ls a b) k := fun k hk => by
    have : k < a ∧ k < b := by split at hk <;> omega
    rw [mvL_gl (by omega), mvI_lo this.1 this.2]
  have lm : (if b < a then b else a) ≤ ls.length := by split <;> omega
  obtain ⟨h2, e2, F2, U2⟩ := s_checkFrom hM C1 (i := if b < a then b else a) (by rw [mvL_len]; exact lm) (m := m) (((S.le lm).fr F1 fun b j x y z => by omega).g g) (by
    rw [mvL_len]
    exact RB.g ⟨(F1.2 _ _ (by omega)).trans B.1, B.2.1, fun k hk => B.2.2 k (by omega)⟩ g)
  have H1 := C1.1
  have H2 := U2.1.1
  refine ⟨h2, ?_, U2, (F1.gr.mo fun b j z => by unfold BP; omega).tr (F2.gr.mo fun b j z => by unfold CK at z; unfold BP; omega)⟩
  obtain ⟨C2, S2', m2, B2⟩ := U2
  unfold X_move
  refine gB H.t0 ?_
  rw [H.p0_0]
  refine gB H.t1 ?_
  refine has_if C ?_
  rw [if_pos (by omega)]
  refine gB H.t0 ?_
  refine gB H.t1 ?_
  refine has_if C ?_
  rw [if_pos (by omega)]
  refine ifF (by omega) ?_
  refine gB H.t0 ?_
  refine gB H.t1 ?_
  refine cB e1 ?_
  refine gB H1.t0 ?_
  rw [H1.p0_0]
  refine cB s_min ?_
  refine gB H1.t1 ?_
  rw [show (if (b : Int) < a then (b : Int) else a) = ((if b < a then b else a : Nat) : Int) by split <;> split <;> omega]
  refine cB e2 ?_
  refine gB H2.t0 ?_
  rw [H2.p0_0]
  refine gB H2.t1 ?_
  refine cB (s_isRight C2 (C2.m63 (k := 0) B2.2.1) B2.1 (by rw [mvL_len]; exact hb)) ?_
  rw [B2.2.2 b (by rw [mvL_len]; exact hb)]
  cases rtS (mvL ls a b) b with
  | true => exact ifF one_ne rfl
  | false => exact ifT rfl rfl
/-! the reference's moving -/
theorem mu_loop {ls : List LN} {a b : Nat} (l60 : ls.length ≤ 60) (hb : b < ls.length) : ∀ (m f p : Nat) (h : AH), p + m = b → a ≤ p → m < f → Sh h → (∀ j : Nat, j < ls.length → LM h j (gl ls (if a ≤ j ∧ j < p then j + 1 else j))) → ∃ h', R_move_32 f 27 a b p h = R_move_53 FU 27 b a h' ∧ Fr MZ h h' ∧ (∀ x j : Int, (x < 33 ∨ 43 < x) → hCe h' x j = hCe h x j) ∧ (∀ x j : Int, MK 115 x j → hCe h' x j = hCe h x j) ∧ ∀ j : Nat, j < ls.length → LM h' j (gl ls (if a ≤ j ∧ j < b then j + 1 else j)) := by
  intro m
  induction m with
  | zero =>
    intro f p h hp ha hf H L
    obtain ⟨f, rfl, -⟩ := fu_pos hf
    have : p = b := by omega
    subst this
    refine ⟨h, ?_, Fr.rf, fun _ _ _ => rfl, fun _ _ _ => rfl, L⟩
    unfold R_move_32
    exact ifF (by omega) rfl
  | succ m ih =>
    intro f p h hp ha hf H L
    obtain ⟨f, rfl, hf⟩ := fu_pos hf
    have L1 := L (p + 1) (by omega)
    rw [if_neg (by omega)] at L1
    obtain ⟨h1, e1, F1, M1⟩ := s_becomes H (k := p) (k2 := p + 1) (by omega) (by omega) (by omega) L1
    obtain ⟨h2, e2, F2, o2, k2, L2⟩ := ih f (p + 1) h1 (by omega) (by omega) (by omega) (H.fr F1 fun b j => MK.mut) fun j hj => by
      by_cases q : j = p
      · subst q; rw [if_pos (by omega)]; exact M1
      · have := (L j hj).fr F1 fun b x y z => by unfold MK at y z; omega
        by_cases z : a ≤ j ∧ j < p
        · rw [if_pos z] at this; rw [if_pos (by omega)]; exact this
        · rw [if_neg z] at this; rw [if_neg (by omega)]; exact this
    refine ⟨h2, ?_, (F1.mo fun b j => MK.mz).tr F2, fun x j y => (o2 x j y).trans (F1.2 _ _ (by unfold MK; omega)), fun x j y => (k2 x j y).trans (F1.2 _ _ (by unfold MK at *; omega)), L2⟩
    rw [← e2]
    conv => lhs; unfold R_move_32
    refine ifT (by omega) ?_
    refine gB H.t27 ?_
    rw [w32_e (z := (p : Int) + 1) (by omega), show (p : Int) + 1 = ((p + 1 : Nat) : Int) by omega]
    exact cB e1 rfl
theorem md_loop {ls : List LN} {a b : Nat} (l60 : ls.length ≤ 60) (ha : a < ls.length) {σ : Nat → Nat} {k : Int → Int → AH → Option (Int × AH)} : ∀ (m f p : Nat) (h : AH), b + m = p → p ≤ a → m < f → Sh h → (∀ j : Nat, j < ls.length → LM h j (gl ls (if p < j ∧ j ≤ a then j - 1 else σ j))) → (m ≠ 0 → ∀ j, σ j = j) → ∃ h', R_move_53 f 27 b p h = ((R_becomes 27 b 115 h').bind fun h4 => (gd (hTy h4 27 = 10) 0).bind fun _ => (R_isRightLine 27 b h4).bind fun u5 => if u5.1 = 0 then some (0, u5.2) else some (1, u5.2)) ∧ Fr MZ h h' ∧ (∀ x j : Int, (x < 33 ∨ 43 < x) → hCe h' x j = hCe h x j) ∧ (∀ x j : Int, MK 115 x j → hCe h' x j = hCe h x j) ∧ ∀ j : Nat, j < ls.length → LM h' j (gl ls (if b < j ∧ j ≤ a then j - 1 else σ j)) := by
  intro m
  induction m with
  | zero =>
    intro f p h hp pa hf H L hσ
    obtain ⟨f, rfl, -⟩ := fu_pos hf
    have : p = b := by omega
    subst this
    refine ⟨h, ?_, Fr.rf, fun _ _ _ => rfl, fun _ _ _ => rfl, L⟩
    unfold R_move_53
    refine ifF (by omega) ?_
    exact gB H.t27 rfl
  | succ m ih =>
    intro f p h hp pa hf H L hσ
    have hσ := hσ (by omega)
    obtain ⟨f, rfl, hf⟩ := fu_pos hf
    have L1 := L (p - 1) (by omega)
    rw [if_neg (by omega), hσ] at L1
    obtain ⟨h1, e1, F1, M1⟩ := s_becomes H (k := p) (k2 := p - 1) (by omega) (by omega) (by omega) L1
    obtain ⟨h2, e2, F2, o2, k2, L2⟩ := ih f (p - 1) h1 (by omega) (by omega) (by omega) (H.fr F1 fun b j => MK.mut) (fun j hj => by
      by_cases q : j = p
      · subst q; rw [if_pos (by omega)]; exact M1
      · have := (L j hj).fr F1 fun b x y z => by unfold MK at y z; omega
        by_cases z : p < j ∧ j ≤ a
        · rw [if_pos z] at this; rw [if_pos (by omega)]; exact this
        · rw [if_neg z] at this; rw [if_neg (by omega)]; exact this) fun _ => hσ
    refine ⟨h2, ?_, (F1.mo fun b j => MK.mz).tr F2, fun x j y => (o2 x j y).trans (F1.2 _ _ (by unfold MK; omega)), fun x j y => (k2 x j y).trans (F1.2 _ _ (by unfold MK at *; omega)), L2⟩
    rw [← e2]
    conv => lhs; unfold R_move_53
    refine ifT (by omega) ?_
    refine gB H.t27 ?_
    rw [w32_e (z := (p : Int) - 1) (by omega), w32_e (z := (p : Int) + -1) (by omega), show (p : Int) - 1 = ((p - 1 : Nat) : Int) by omega, show (p : Int) + -1 = ((p - 1 : Nat) : Int) by omega]
    exact cB e1 rfl
theorem mv_r {h : AH} {ls : List LN} {tp : List Int} (m : MS h ls tp) {a b : Nat} (ha : a < ls.length) (hb : b < ls.length) (ne : a ≠ b) : ∃ h', R_move 27 a b h = some (b2i (rtS (mvL ls a b) b), h') ∧ MS h' (mvL ls a b) tp ∧ Fr MZ h h' := by
  have H := m.1
  have l60 := m.2.1.2.1
  obtain ⟨h1, e1, F1, M1⟩ := s_becomes H (k := 115) (k2 := a) (by omega) (by omega) (by omega) (m.2.1.2.2 a ha).1
  have H1 := H.fr F1 fun b j => MK.mut
  have L1 : ∀ j : Nat, j < ls.length → LM h1 j (gl ls j) := fun j hj => (m.2.1.2.2 j hj).1.fr F1 fun b x y z => by unfold MK at y z; omega
  have two : ∃ h3, R_move_32 FU 27 a b a h1 = ((R_becomes 27 b 115 h3).bind fun h4 => (gd (hTy h4 27 = 10) 0).bind fun _ => (R_isRightLine 27 b h4).bind fun u5 => if u5.1 = 0 then some (0, u5.2) else some (1, u5.2)) ∧ Fr MZ h1 h3 ∧ (∀ x j : Int, (x < 33 ∨ 43 < x) → hCe h3 x j = hCe h1 x j) ∧ (∀ x j : Int, MK 115 x j → hCe h3 x j = hCe h1 x j) ∧ ∀ j : Nat, j < ls.length → j ≠ b → LM h3 j (gl ls (mvI a b j)) := by
    by_cases q : a < b
    · obtain ⟨h2, e2, F2, o2, k2, L2⟩ := mu_loop l60 hb (b - a) FU a h1 (by omega) (Nat.le_refl _) (fu_big (by omega)) H1 fun j hj => by rw [if_neg (by omega)]; exact L1 j hj
      have H2 := H1.fr F2 fun b j z => z.1
      refine ⟨h2, ?_, F2, o2, k2, fun j hj jb => ?_⟩
      · rw [e2]
        obtain ⟨f, hf⟩ : ∃ f, FU = f + 1 := ⟨_, rfl⟩
        rw [hf]
        conv => lhs; unfold R_move_53
        refine ifF (by omega) ?_
        exact gB H2.t27 rfl
      · have := L2 j hj
        unfold mvI
        rw [if_neg jb]
        by_cases z : a ≤ j ∧ j < b
        · rw [if_pos z] at this ⊢; exact this
        · rw [if_neg z] at this ⊢; rw [if_neg (by omega)]; exact this
    · have e2 : R_move_32 FU 27 a b a h1 = R_move_53 FU 27 b a h1 := by
        obtain ⟨f, hf⟩ : ∃ f, FU = f + 1 := ⟨_, rfl⟩
        conv => lhs; rw [hf]; unfold R_move_32
        exact ifF (by omega) rfl
      obtain ⟨h3, e3, F3, o3, k3, L3⟩ := md_loop (σ := fun j => j) (k := fun _ _ _ => none) l60 ha (b := b) (a - b) FU a h1 (by omega) (Nat.le_refl _) (fu_big (by omega)) H1 (fun j hj => by rw [if_neg (by omega)]; exact L1 j hj) fun _ _ => rfl
      refine ⟨h3, e2.trans e3, F3, o3, k3, fun j hj jb => ?_⟩
      have := L3 j hj
      unfold mvI
      rw [if_neg jb, if_neg (show ¬ (a ≤ j ∧ j < b) by omega)]
      exact this
  obtain ⟨h3, e3, F3, o3, k3, L3⟩ := two
  have H3 := H1.fr F3 fun b j z => z.1
  have M3 : LM h3 115 (gl ls a) := M1.of fun x j y => k3 x j y
  obtain ⟨h4, e4, F4, M4⟩ := s_becomes H3 (k := b) (k2 := 115) (by omega) (by omega) (by omega) M3
  have H4 := H3.fr F4 fun b j => MK.mut
  have out : ∀ x j : Int, (x < 33 ∨ 43 < x) → hCe h4 x j = hCe h x j := fun x j y => (F4.2 _ _ (by unfold MK; omega)).trans ((o3 x j y).trans (F1.2 _ _ (by unfold MK; omega)))
  have m4 : MS h4 (mvL ls a b) tp := by
    refine ⟨H4, ⟨by rw [mvL_len, out _ _ (by omega)]; exact m.2.1.1, by rw [mvL_len]; exact l60, fun j hj => ?_⟩, (out _ _ (by omega)).trans m.2.2.1, m.2.2.2.1, m.2.2.2.2.1, fun i hi => (out _ _ (by omega)).trans (m.2.2.2.2.2 i hi)⟩
    rw [mvL_len] at hj
    rw [mvL_gl hj]
    refine ⟨?_, (m.2.1.2.2 _ (mvI_lt ha hb hj)).2⟩
    by_cases q : j = b
    · subst q
      have : mvI a j j = a := by unfold mvI; rw [if_pos rfl]
      rw [this]
      exact M4
    · exact (L3 j hj q).fr F4 fun b x y z => by unfold MK at y z; omega
  obtain ⟨h5, e5, F5, R5⟩ := s_laysRight m4.1 m4.2.1
  have m5 := m4.frQ F5 fun b j => WK.q
  refine ⟨h5, ?_, m5, ((F1.mo fun b j => MK.mz).tr F3).tr ((F4.mo fun b j => MK.mz).tr (F5.mo fun b j => WK.mz))⟩
  unfold R_move
  refine gB H.t27 ?_
  refine rhas_if m ?_
  rw [if_pos (by omega)]
  refine gB H.t27 ?_
  refine rhas_if m ?_
  rw [if_pos (by omega)]
  refine ifF (by omega) ?_
  refine gB H.t27 ?_
  refine cB e1 ?_
  rw [e3]
  refine cB e4 ?_
  refine gB H4.t27 ?_
  have ir : R_isRightLine 27 b h4 = some (b2i (rtS (mvL ls a b) b), h5) := by
    unfold R_isRightLine
    refine gB H4.t27 ?_
    refine cB e5 ?_
    refine gB m5.1.t27 ?_
    rw [m5.1.p27_19]
    refine gB ⟨Or.inr m5.1.t44, by omega, by rw [m5.1.l44]; omega⟩ ?_
    rw [(R5 b (by rw [mvL_len]; exact hb)).1]
    refine gB ?_ rfl
    cases rtS (mvL ls a b) b <;> decide
  refine cB ir ?_
  cases rtS (mvL ls a b) b with
  | true => exact ifF one_ne rfl
  | false => exact ifT rfl rfl
theorem q_move (hM : MRok) (i j : Int) : sim (fun h => X_move 0 i j h) (fun h => R_move 27 i j h) := mk_sim fun ls tp ok => by
  by_cases q : (0 ≤ i ∧ i < ls.length) ∧ (0 ≤ j ∧ j < ls.length) ∧ i ≠ j
  · obtain ⟨⟨i0, i1⟩, ⟨j0, j1⟩, ne⟩ := q
    obtain ⟨a, rfl⟩ := Int.eq_ofNat_of_zero_le i0
    obtain ⟨b, rfl⟩ := Int.eq_ofNat_of_zero_le j0
    refine ⟨b2i (rtS (mvL ls a b) b), mvL ls a b, tp, xC.bp fun h hw dw U => ?_, fun h m => ?_⟩
    · obtain ⟨h', e, U', G⟩ := mv_x hM U (a := a) (b := b) (by omega) (by omega) (by omega)
      exact ⟨h', hw, dw, e, U', G⟩
    · exact mv_r m (by omega) (by omega) (by omega)
  · refine ⟨-1, ls, tp, xC.keep fun h hw dw U t => ?_, rC.keep fun h m => ?_⟩
    · have H := U.1.1
      show X_move 0 i j h = _
      unfold X_move
      refine gB H.t0 ?_
      rw [H.p0_0]
      refine gB H.t1 ?_
      refine has_if U.1 ?_
      by_cases q1 : 0 ≤ i ∧ i < ls.length
      · rw [if_pos q1]
        refine gB H.t0 ?_
        refine gB H.t1 ?_
        refine has_if U.1 ?_
        by_cases q2 : 0 ≤ j ∧ j < ls.length
        · rw [if_pos q2]
          exact ifT (Classical.byContradiction fun z => q ⟨q1, q2, z⟩) rfl
        · rw [if_neg q2]
      · rw [if_neg q1]
    · show R_move 27 i j h = _
      unfold R_move
      refine gB m.1.t27 ?_
      refine rhas_if m ?_
      by_cases q1 : 0 ≤ i ∧ i < ls.length
      · rw [if_pos q1]
        refine gB m.1.t27 ?_
        refine rhas_if m ?_
        by_cases q2 : 0 ≤ j ∧ j < ls.length
        · rw [if_pos q2]
          exact ifT (Classical.byContradiction fun z => q ⟨q1, q2, z⟩) rfl
        · rw [if_neg q2]
      · rw [if_neg q1]
