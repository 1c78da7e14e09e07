/-! read: the signs of a tape, the WORDS, INTS and others on it -/
def kd (c : Int) : Int := if 97 ≤ c ∧ c ≤ 122 then 1 else if 48 ≤ c ∧ c ≤ 57 then 2 else 3
def tA (tp : List Int) (i : Nat) : Int := tp.getD i 0
def skF (tp : List Int) : Nat → Nat → Nat
  | 0, i => i
  | n + 1, i => if tA tp i = 32 then skF tp n (i + 1) else i
def ruF (tp : List Int) (k : Int) : Nat → Nat → Nat
  | 0, i => i
  | n + 1, i => if kd (tA tp i) = k then ruF tp k n (i + 1) else i
/-- the first sign from e on that is no blank; the end of what is of one kind -/
def skS (tp : List Int) (e : Nat) : Nat := skF tp (tp.length - e) e
def ruS (tp : List Int) (k : Int) (i : Nat) : Nat := ruF tp k (tp.length - i) i
/-- kind, start, end -/
abbrev T3 : Type := Int × Nat × Nat
def adv (tp : List Int) (j : Bool) (e : Nat) : T3 := if tp.length ≤ skS tp e then (0, skS tp e, skS tp e) else (if j = true ∧ skS tp e = e then 3 else kd (tA tp (skS tp e)), skS tp e, if kd (tA tp (skS tp e)) = 3 then skS tp e + 1 else ruS tp (kd (tA tp (skS tp e))) (skS tp e + 1))
def jn (k : Int) : Bool := decide (k = 1 ∨ k = 2)
def nxT (tp : List Int) (T : T3) : T3 := adv tp (jn T.1) T.2.2
theorem kd_c (c : Int) : kd c = 1 ∨ kd c = 2 ∨ kd c = 3 := by
  unfold kd
  split
  · exact Or.inl rfl
  split
  · exact Or.inr (Or.inl rfl)
  · exact Or.inr (Or.inr rfl)
theorem skF_bd (tp : List Int) : ∀ n i, i ≤ skF tp n i ∧ skF tp n i ≤ i + n
  | 0, i => ⟨Nat.le_refl _, Nat.le_refl _⟩
  | n + 1, i => by
    have := skF_bd tp n (i + 1)
    unfold skF
    split <;> omega
theorem ruF_bd (tp : List Int) (k : Int) : ∀ n i, i ≤ ruF tp k n i ∧ ruF tp k n i ≤ i + n
  | 0, i => ⟨Nat.le_refl _, Nat.le_refl _⟩
  | n + 1, i => by
    have := ruF_bd tp k n (i + 1)
    unfold ruF
    split <;> omega
theorem ruF_in (tp : List Int) (k : Int) : ∀ n i j, i ≤ j → j < ruF tp k n i → kd (tA tp j) = k
  | 0, i, j, h1, h2 => absurd h2 (by show ¬ j < i; omega)
  | n + 1, i, j, h1, h2 => by
    unfold ruF at h2
    by_cases q : kd (tA tp i) = k
    · rw [if_pos q] at h2
      by_cases z : j = i
      · subst z; exact q
      · exact ruF_in tp k n (i + 1) j (by omega) h2
    · rw [if_neg q] at h2; omega
theorem skS_bd {tp : List Int} {e : Nat} (h : e ≤ tp.length) : e ≤ skS tp e ∧ skS tp e ≤ tp.length := by
  have := skF_bd tp (tp.length - e) e
  unfold skS
  omega
theorem ruS_bd {tp : List Int} {k : Int} {i : Nat} (h : i ≤ tp.length) : i ≤ ruS tp k i ∧ ruS tp k i ≤ tp.length := by
  have := ruF_bd tp k (tp.length - i) i
  unfold ruS
  omega
/-- what holds of each place of the reading -/
def WTp (tp : List Int) (T : T3) : Prop := T.2.1 ≤ T.2.2 ∧ T.2.2 ≤ tp.length ∧ (T.1 = 0 → T.2.1 = tp.length) ∧ (T.1 ≠ 0 → T.2.1 < T.2.2) ∧ (T.1 = 1 → ∀ j, T.2.1 ≤ j → j < T.2.2 → kd (tA tp j) = 1) ∧ (T.1 = 2 → ∀ j, T.2.1 ≤ j → j < T.2.2 → kd (tA tp j) = 2) ∧ 0 ≤ T.1 ∧ T.1 ≤ 3
theorem adv_wt {tp : List Int} {j : Bool} {e : Nat} (h : e ≤ tp.length) : WTp tp (adv tp j e) := by
  have s := skS_bd h
  unfold adv
  by_cases q : tp.length ≤ skS tp e
  · rw [if_pos q]
    exact ⟨Nat.le_refl _, s.2, fun _ => by show skS tp e = _; omega, (fun z => absurd rfl z), (fun z => by cases z), (fun z => by cases z), Int.le_refl 0, (show (0 : Int) ≤ 3 by decide)⟩
  · rw [if_neg q]
    have r := ruS_bd (tp := tp) (k := kd (tA tp (skS tp e))) (i := skS tp e + 1) (by omega)
    have lt : skS tp e < (if kd (tA tp (skS tp e)) = 3 then skS tp e + 1 else ruS tp (kd (tA tp (skS tp e))) (skS tp e + 1)) ∧ (if kd (tA tp (skS tp e)) = 3 then skS tp e + 1 else ruS tp (kd (tA tp (skS tp e))) (skS tp e + 1)) ≤ tp.length := by
      split <;> omega
    have c := kd_c (tA tp (skS tp e))
    have k3 : ∀ k : Int, (k = 1 ∨ k = 2) → (if j = true ∧ skS tp e = e then (3 : Int) else kd (tA tp (skS tp e))) = k → ∀ i, skS tp e ≤ i → i < (if kd (tA tp (skS tp e)) = 3 then skS tp e + 1 else ruS tp (kd (tA tp (skS tp e))) (skS tp e + 1)) → kd (tA tp i) = k := by
      intro k hk ek i h1 h2
      by_cases z : j = true ∧ skS tp e = e
      · rw [if_pos z] at ek; omega
      · rw [if_neg z] at ek
        rw [if_neg (by omega)] at h2
        by_cases y : i = skS tp e
        · subst y; exact ek
        · rw [← ek]
          exact ruF_in tp _ _ (skS tp e + 1) i (by omega) h2
    refine ⟨Nat.le_of_lt lt.1, lt.2, fun z => ?_, fun _ => lt.1, k3 1 (Or.inl rfl), k3 2 (Or.inr rfl), ?_, ?_⟩
    · exfalso
      have z' : (if j = true ∧ skS tp e = e then (3 : Int) else kd (tA tp (skS tp e))) = 0 := z
      split at z' <;> omega
    · show 0 ≤ (if j = true ∧ skS tp e = e then (3 : Int) else kd (tA tp (skS tp e)))
      split <;> omega
    · show (if j = true ∧ skS tp e = e then (3 : Int) else kd (tA tp (skS tp e))) ≤ 3
      split <;> omega
theorem adv_ge {tp : List Int} {j : Bool} {e : Nat} (h : e ≤ tp.length) : e ≤ (adv tp j e).2.1 ∧ (j = true → (adv tp j e).1 = 1 ∨ (adv tp j e).1 = 2 → e < (adv tp j e).2.1) := by
  have s := skS_bd h
  unfold adv
  by_cases q : tp.length ≤ skS tp e
  · rw [if_pos q]
    exact ⟨s.1, fun _ z => by rcases z with z | z <;> cases z⟩
  · rw [if_neg q]
    refine ⟨s.1, fun a z => ?_⟩
    have z' : (if j = true ∧ skS tp e = e then (3 : Int) else kd (tA tp (skS tp e))) = 1 ∨ (if j = true ∧ skS tp e = e then (3 : Int) else kd (tA tp (skS tp e))) = 2 := z
    show e < skS tp e
    by_cases y : j = true ∧ skS tp e = e
    · rw [if_pos y] at z'; omega
    · have : ¬ skS tp e = e := fun w => y ⟨a, w⟩
      omega
/-! words and numbers there -/
def sl (tp : List Int) (s e : Nat) : List Int := (tp.drop s).take (e - s)
def wdR (k : Nat) : List Int := wdC (nmR k)
def wxF (x : List Int) : Nat → Nat
  | 0 => 10
  | n + 1 => if x = wdR n then n else wxF x n
def wx (x : List Int) : Nat := wxF x 10
def vaF (tp : List Int) : Nat → Nat → Int
  | 0, _ => 0
  | n + 1, i => 10 * vaF tp n i + (tA tp (i + n) - 48)
/-- the INT from s to e -/
def vaS (tp : List Int) (s e : Nat) : Int := vaF tp (e - s) s
theorem va_bd {tp : List Int} {i : Nat} : ∀ n, (∀ j, i ≤ j → j < i + n → kd (tA tp j) = 2) → 0 ≤ vaF tp n i ∧ vaF tp n i < 10 ^ n
  | 0, _ => by unfold vaF; decide
  | n + 1, h => by
    obtain ⟨h1, h2⟩ := va_bd n fun j a b => h j a (by omega)
    have h3 := h (i + n) (by omega) (by omega)
    have h4 : 48 ≤ tA tp (i + n) ∧ tA tp (i + n) ≤ 57 := by
      unfold kd at h3
      split at h3
      · omega
      · split at h3
        · assumption
        · omega
    unfold vaF
    rw [Int.pow_succ]
    omega
theorem kd_2 {c : Int} (h : kd c = 2) : 48 ≤ c ∧ c ≤ 57 := by
  unfold kd at h
  split at h
  · omega
  · split at h
    · assumption
    · omega
theorem kd_1 {c : Int} (h : kd c = 1) : 97 ≤ c ∧ c ≤ 122 := by
  unfold kd at h
  split at h
  · assumption
  · split at h <;> omega
theorem wdR_ne : ∀ a : Nat, a < 10 → ∀ b : Nat, b < 10 → wdR a = wdR b → a = b := by decide
theorem wx_le (x : List Int) : ∀ n, n ≤ 10 → (wxF x n = 10 ∧ ∀ k, k < n → x ≠ wdR k) ∨ (wxF x n < n ∧ x = wdR (wxF x n))
  | 0, _ => Or.inl ⟨rfl, fun k hk => absurd hk (Nat.not_lt_zero k)⟩
  | n + 1, h => by
    unfold wxF
    by_cases q : x = wdR n
    · rw [if_pos q]
      exact Or.inr ⟨Nat.lt_succ_self n, q⟩
    · rw [if_neg q]
      rcases wx_le x n (by omega) with ⟨a, b⟩ | ⟨a, b⟩
      · refine Or.inl ⟨a, fun k hk => ?_⟩
        by_cases z : k = n
        · subst z; exact q
        · exact b k (by omega)
      · exact Or.inr ⟨by omega, b⟩
theorem wx_bd (x : List Int) : wx x ≤ 10 := by
  rcases wx_le x 10 (Nat.le_refl _) with ⟨a, -⟩ | ⟨a, -⟩
  · exact Nat.le_of_eq a
  · exact Nat.le_of_lt a
theorem wx_iff {x : List Int} {k : Nat} (hk : k < 10) : x = wdR k ↔ wx x = k := by
  rcases wx_le x 10 (Nat.le_refl _) with ⟨a, b⟩ | ⟨a, b⟩
  · constructor
    · intro e; exact absurd e (b k hk)
    · intro e
      have : wx x = 10 := a
      omega
  · constructor
    · intro e; exact wdR_ne _ a k hk (b.symm.trans e)
    · intro e
      have e' : wxF x 10 = k := e
      rw [e'] at b
      exact b
theorem sl_len {tp : List Int} {s e : Nat} (h1 : s ≤ e) (h2 : e ≤ tp.length) : (sl tp s e).length = e - s := by
  unfold sl
  rw [List.length_take, List.length_drop]
  omega
theorem sl_at {tp : List Int} {s e i : Nat} (hi : i < e - s) : (sl tp s e).getD i 0 = tA tp (s + i) := by
  unfold sl tA
  rw [List.getD_eq_getElem?_getD, List.getD_eq_getElem?_getD, List.getElem?_take, if_pos hi, List.getElem?_drop]
/-- the same text, sign by sign -/
theorem sl_eq {tp : List Int} {s e : Nat} (h1 : s ≤ e) (h2 : e ≤ tp.length) {w : List Int} : sl tp s e = w ↔ e - s = w.length ∧ ∀ i, i < w.length → tA tp (s + i) = w.getD i 0 := by
  constructor
  · rintro rfl
    rw [sl_len h1 h2]
    exact ⟨rfl, fun i hi => (sl_at hi).symm⟩
  · rintro ⟨a, b⟩
    have l := sl_len h1 h2
    refine List.ext_getElem (l.trans a) fun i x y => ?_
    have c := b i y
    rw [← sl_at (e := e) (by omega), List.getD_eq_getElem?_getD, List.getD_eq_getElem?_getD, List.getElem?_eq_getElem x, List.getElem?_eq_getElem y] at c
    exact c
/-! the class goes on to the next -/
def AKr (b j : Int) : Prop := b = 16 ∧ 3 ≤ j
theorem AKr.mut {b j : Int} (z : AKr b j) : Mut b j := mutB (by unfold AKr at z; unfold MutB; omega)
theorem TP.fr {P : Int → Int → Prop} {h h' : AH} {o f a : Int} {tp : List Int} (t : TP h o f a tp) (F : Fr P h h') (q1 : ¬ P o f) (q2 : ∀ j, ¬ P a j) : TP h' o f a tp := ⟨(F.2 _ _ q1).trans t.1, t.2.1, t.2.2.1, fun i hi => (F.2 _ _ (q2 _)).trans (t.2.2.2 i hi)⟩
theorem TP.at {h : AH} {o f a : Int} {tp : List Int} (t : TP h o f a tp) {i : Nat} (hi : i < tp.length) : hCe h a i = tA tp i := t.2.2.2 i hi
theorem s_kindOf {c : Int} : Reader_kindOf c = some (kd c) := by
  unfold Reader_kindOf kd
  by_cases l : 97 ≤ c ∧ c ≤ 122
  · rw [if_pos l, if_neg (show ¬ c < 97 by omega), if_neg (show ¬ 122 < c by omega)]
  rw [if_neg l]
  by_cases d : 48 ≤ c ∧ c ≤ 57
  · rw [if_pos d, if_pos (show c < 97 by omega), if_neg (show ¬ c < 48 by omega), if_neg (show ¬ 57 < c by omega)]
  rw [if_neg d]
  by_cases b : c < 48
  · rw [if_pos (show c < 97 by omega), if_pos b]
  rw [if_neg b, if_pos (show 57 < c by omega)]
  by_cases a : c < 97
  · rw [if_pos a]
  · rw [if_neg a, if_pos (show 122 < c by omega)]
section ADV
variable {tp : List Int}
theorem a35 : ∀ (n f i : Nat) (h : AH) (b : Bool), i + n = tp.length → n < f → Sh h → TP h 14 1 15 tp → hCe h 16 4 = (i : Int) → ∃ h', Reader_advance_35 f 16 (b2i b) i h = Reader_advance_75 16 (b2i (b && decide (skF tp n i = i))) h' ∧ hCe h' 16 4 = (skF tp n i : Int) ∧ Fr AKr h h' ∧ hCe h' 16 3 = hCe h 16 3 := by
  intro n
  induction n with
  | zero =>
    intro f i h b hi hf H t e
    obtain ⟨f, rfl, -⟩ := fu_pos hf
    refine ⟨h, ?_, e, Fr.rf, rfl⟩
    rw [show skF tp 0 i = i from rfl, decide_eq_true rfl, Bool.and_true]
    conv => lhs; unfold Reader_advance_35
    refine gB H.t16 ?_
    rw [H.p16_0]
    refine gB H.t14 ?_
    rw [t.1]
    exact ifF (by omega) rfl
  | succ n ih =>
    intro f i h b hi hf H t e
    obtain ⟨f, rfl, hf⟩ := fu_pos hf
    have i4 := t.2.1
    have pre : ∀ {r}, (if tA tp i = 32 then Reader_advance_35 f 16 0 ((i + 1 : Nat) : Int) (hSet h 16 4 ((i + 1 : Nat) : Int)) else Reader_advance_75 16 (b2i b) h) = r → Reader_advance_35 (f + 1) 16 (b2i b) i h = r := by
      rintro r rfl
      conv => lhs; unfold Reader_advance_35
      refine gB H.t16 ?_
      rw [H.p16_0]
      refine gB H.t14 ?_
      rw [t.1]
      refine ifT (by omega) ?_
      refine gB H.t16 ?_
      refine gB H.t14 ?_
      rw [H.p14_0]
      refine gB ⟨H.t15, by omega, by rw [H.l15]; omega⟩ ?_
      rw [t.at (by omega), w32_e (z := (i : Int) + 1) (by omega)]
      by_cases q : tA tp i = 32
      · rw [if_pos q, if_pos q]
        exact gB H.t16 rfl
      · rw [if_neg q, if_neg q]
    by_cases q : tA tp i = 32
    · have F1 : Fr AKr h (hSet h 16 4 ((i + 1 : Nat) : Int)) := Fr.set ⟨rfl, by omega⟩
      have sk : skF tp (n + 1) i = skF tp n (i + 1) := if_pos q
      have bd := skF_bd tp n (i + 1)
      obtain ⟨h', e', c', F', k'⟩ := ih f (i + 1) _ false (by omega) (by omega) (H.fr F1 fun b j => AKr.mut) (t.fr F1 (by unfold AKr; omega) fun j => by unfold AKr; omega) (cS _ _ _ _)
      rw [sk]
      refine ⟨h', pre ((if_pos q).trans ?_), c', F1.tr F', k'.trans (cN (by omega))⟩
      rw [decide_eq_false (show ¬ skF tp n (i + 1) = i by omega), Bool.and_false]
      exact e'
    · have sk : skF tp (n + 1) i = i := if_neg q
      rw [sk, decide_eq_true rfl, Bool.and_true]
      exact ⟨h, pre (if_neg q), e, Fr.rf, rfl⟩
/-- behind the loops: OTHER, if it is joined -/
def jnH (b : Bool) (h : AH) : AH := if b = true then hSet h 16 3 3 else h
theorem jn_if {b : Bool} {h : AH} (H : Sh h) : (if b2i b = 0 then some h else (gd (hTy h 16 = 5) (hSet h 16 3 3)).bind fun h2 => some h2) = some (jnH b h) := by
  cases b with
  | false => exact ifT rfl rfl
  | true => exact ifF one_ne (gB H.t16 rfl)
theorem a137 {k : Int} (k3 : k ≠ 3) : ∀ (n f i : Nat) (h : AH) (b : Bool), i + n = tp.length → n < f → Sh h → TP h 14 1 15 tp → hCe h 16 3 = k → hCe h 16 5 = (i : Int) → ∃ h', Reader_advance_137 f 16 (b2i b) i h = some h' ∧ hCe h' 16 5 = (ruF tp k n i : Int) ∧ hCe h' 16 4 = hCe h 16 4 ∧ hCe h' 16 3 = (if b = true then 3 else k) ∧ Fr AKr h h' := by
  have fin : ∀ (h : AH) (b : Bool) (i : Nat), hCe h 16 3 = k → hCe h 16 5 = (i : Int) → hCe (jnH b h) 16 5 = (i : Int) ∧ hCe (jnH b h) 16 4 = hCe h 16 4 ∧ hCe (jnH b h) 16 3 = (if b = true then 3 else k) ∧ Fr AKr h (jnH b h) := by
    intro h b i c e
    cases b with
    | false => exact ⟨e, rfl, c, Fr.rf⟩
    | true => exact ⟨(cN (by omega)).trans e, cN (by omega), cS _ _ _ _, Fr.set ⟨rfl, by omega⟩⟩
  intro n
  induction n with
  | zero =>
    intro f i h b hi hf H t c e
    obtain ⟨f, rfl, -⟩ := fu_pos hf
    refine ⟨jnH b h, ?_, fin h b i c e⟩
    unfold Reader_advance_137
    refine gB H.t16 ?_
    rw [c]
    refine ifF k3 ?_
    refine gB H.t16 ?_
    rw [H.p16_0]
    refine gB H.t14 ?_
    rw [t.1]
    refine ifF (by omega) ?_
    exact jn_if H
  | succ n ih =>
    intro f i h b hi hf H t c e
    obtain ⟨f, rfl, hf⟩ := fu_pos hf
    have i4 := t.2.1
    have pre : ∀ {r}, (if kd (tA tp i) = k then Reader_advance_137 f 16 (b2i b) ((i + 1 : Nat) : Int) (hSet h 16 5 ((i + 1 : Nat) : Int)) else some (jnH b h)) = r → Reader_advance_137 (f + 1) 16 (b2i b) i h = r := by
      rintro r rfl
      conv => lhs; unfold Reader_advance_137
      refine gB H.t16 ?_
      rw [c]
      refine ifF k3 ?_
      refine gB H.t16 ?_
      rw [H.p16_0]
      refine gB H.t14 ?_
      rw [t.1]
      refine ifT (by omega) ?_
      refine gB H.t16 ?_
      refine gB H.t14 ?_
      rw [H.p14_0]
      refine gB ⟨H.t15, by omega, by rw [H.l15]; omega⟩ ?_
      rw [t.at (by omega), w32_e (z := (i : Int) + 1) (by omega)]
      refine cB s_kindOf ?_
      refine gB H.t16 ?_
      by_cases q : kd (tA tp i) = k
      · rw [if_pos q, if_pos q]
        exact gB H.t16 rfl
      · rw [if_neg q, if_neg q]
        exact jn_if H
    by_cases q : kd (tA tp i) = k
    · have F1 : Fr AKr h (hSet h 16 5 ((i + 1 : Nat) : Int)) := Fr.set ⟨rfl, by omega⟩
      obtain ⟨h', e', c5, c4, c3, F'⟩ := ih f (i + 1) _ b (by omega) (by omega) (H.fr F1 fun b j => AKr.mut) (t.fr F1 (by unfold AKr; omega) fun j => by unfold AKr; omega) ((cN (by omega)).trans c) (cS _ _ _ _)
      rw [show ruF tp k (n + 1) i = ruF tp k n (i + 1) from if_pos q]
      exact ⟨h', pre ((if_pos q).trans e'), c5, c4.trans (cN (by omega)), c3, F1.tr F'⟩
    · rw [show ruF tp k (n + 1) i = i from if_neg q]
      exact ⟨jnH b h, pre (if_neg q), fin h b i c e⟩
/-- where the class is on the tape -/
def RD (h : AH) (tp : List Int) (T : T3) : Prop := Sh h ∧ TP h 14 1 15 tp ∧ hCe h 16 3 = T.1 ∧ hCe h 16 4 = (T.2.1 : Int) ∧ hCe h 16 5 = (T.2.2 : Int) ∧ WTp tp T
theorem s_advance {h : AH} (H : Sh h) (t : TP h 14 1 15 tp) {k : Int} (c3 : hCe h 16 3 = k) {e : Nat} (c5 : hCe h 16 5 = (e : Int)) (he : e ≤ tp.length) : ∃ h', Reader_advance 16 h = some h' ∧ RD h' tp (adv tp (jn k) e) ∧ Fr AKr h h' := by
  have i4 := t.2.1
  have F0 : Fr AKr h (hSet h 16 4 (e : Int)) := Fr.set ⟨rfl, by omega⟩
  have H0 := H.fr F0 fun b j => AKr.mut
  have t0 := t.fr F0 (by unfold AKr; omega) fun j => by unfold AKr; omega
  obtain ⟨h1, e1, d1, F1, k1⟩ := a35 (tp.length - e) FU e _ (jn k) (by omega) (fu_big (by omega)) H0 t0 (cS _ _ _ _)
  have sb := skS_bd he
  have d1 : hCe h1 16 4 = (skS tp e : Int) := d1
  have H1 := H0.fr F1 fun b j => AKr.mut
  have t1 := t0.fr F1 (by unfold AKr; omega) fun j => by unfold AKr; omega
  have pre : ∀ {r}, Reader_advance_75 16 (b2i (jn k && decide (skS tp e = e))) h1 = r → Reader_advance 16 h = r := by
    rintro r rfl
    refine Eq.trans ?_ e1
    unfold Reader_advance
    refine gB H.t16 ?_
    rw [c3]
    by_cases k1 : k = 1
    · refine ifT k1 ?_
      refine gB H.t16 ?_
      rw [c5]
      refine gB H.t16 ?_
      refine gB H.t16 ?_
      rw [cN (by omega), c5, show jn k = true from decide_eq_true (Or.inl k1)]
      rfl
    refine ifF k1 ?_
    refine gB H.t16 ?_
    by_cases k2 : k = 2
    · refine ifT k2 ?_
      refine gB H.t16 ?_
      rw [c5]
      refine gB H.t16 ?_
      refine gB H.t16 ?_
      rw [cN (by omega), c5, show jn k = true from decide_eq_true (Or.inr k2)]
      rfl
    refine ifF k2 ?_
    refine gB H.t16 ?_
    rw [c5]
    refine gB H.t16 ?_
    refine gB H.t16 ?_
    rw [cN (by omega), c5, show jn k = false from decide_eq_false (by omega)]
    rfl
  have F2 : Fr AKr h1 (hSet h1 16 5 (skS tp e : Int)) := Fr.set ⟨rfl, by omega⟩
  have H2 := H1.fr F2 fun b j => AKr.mut
  have t2 := t1.fr F2 (by unfold AKr; omega) fun j => by unfold AKr; omega
  have wt := adv_wt (tp := tp) (j := jn k) he
  by_cases q : tp.length ≤ skS tp e
  · have F3 : Fr AKr (hSet h1 16 5 (skS tp e : Int)) (hSet (hSet h1 16 5 (skS tp e : Int)) 16 3 0) := Fr.set ⟨rfl, by omega⟩
    have ad : adv tp (jn k) e = (0, skS tp e, skS tp e) := if_pos q
    rw [ad] at wt ⊢
    refine ⟨_, pre ?_, ⟨H2.fr F3 fun b j => AKr.mut, t2.fr F3 (by unfold AKr; omega) (fun j => by unfold AKr; omega), cS _ _ _ _, (cN (by omega)).trans ((cN (by omega)).trans d1), (cN (by omega)).trans (cS _ _ _ _), wt⟩, F0.tr (F1.tr (F2.tr F3))⟩
    unfold Reader_advance_75
    refine gB H1.t16 ?_
    rw [d1]
    refine gB H1.t16 ?_
    refine gB H1.t16 ?_
    refine gB H1.t16 ?_
    rw [cN (b := 16) (j := 0) (by omega), H1.p16_0]
    refine gB H1.t14 ?_
    rw [cN (b := 14) (by omega), t1.1, cN (b := 16) (j := 4) (by omega), d1]
    refine ifF (by omega) ?_
    exact gB H1.t16 rfl
  · have F3 : Fr AKr (hSet h1 16 5 (skS tp e : Int)) (hSet (hSet (hSet h1 16 5 (skS tp e : Int)) 16 3 (kd (tA tp (skS tp e)))) 16 5 ((skS tp e + 1 : Nat) : Int)) := (Fr.set ⟨rfl, by omega⟩).setT ⟨rfl, by omega⟩
    have H3 := H2.fr F3 fun b j => AKr.mut
    have t3 := t2.fr F3 (by unfold AKr; omega) fun j => by unfold AKr; omega
    have pre2 : ∀ {r}, Reader_advance_137 FU 16 (b2i (jn k && decide (skS tp e = e))) ((skS tp e + 1 : Nat) : Int) (hSet (hSet (hSet h1 16 5 (skS tp e : Int)) 16 3 (kd (tA tp (skS tp e)))) 16 5 ((skS tp e + 1 : Nat) : Int)) = r → Reader_advance 16 h = r := by
      rintro r rfl
      refine pre ?_
      unfold Reader_advance_75
      refine gB H1.t16 ?_
      rw [d1]
      refine gB H1.t16 ?_
      refine gB H1.t16 ?_
      refine gB H1.t16 ?_
      rw [cN (b := 16) (j := 0) (by omega), H1.p16_0]
      refine gB H1.t14 ?_
      rw [cN (b := 14) (by omega), t1.1, cN (b := 16) (j := 4) (by omega), d1]
      refine ifT (by omega) ?_
      refine gB H1.t16 ?_
      refine gB H1.t14 ?_
      rw [cN (b := 14) (by omega), H1.p14_0]
      refine gB H1.t16 ?_
      refine gB ⟨H1.t15, by omega, by show _ < hLn h1 15; rw [H1.l15]; omega⟩ ?_
      rw [cN (b := 15) (by omega), t1.at (by omega)]
      refine cB s_kindOf ?_
      refine gB H1.t16 ?_
      refine gB H1.t16 ?_
      rw [cN (b := 16) (j := 4) (by omega), cN (b := 16) (j := 4) (by omega), d1, w32_e (z := (skS tp e : Int) + 1) (by omega)]
      refine gB H1.t16 ?_
      refine gB H1.t16 ?_
      rw [show (skS tp e : Int) + 1 = ((skS tp e + 1 : Nat) : Int) by omega, cS]
    have c4 : hCe (hSet (hSet (hSet h1 16 5 (skS tp e : Int)) 16 3 (kd (tA tp (skS tp e)))) 16 5 ((skS tp e + 1 : Nat) : Int)) 16 4 = (skS tp e : Int) := (cN (by omega)).trans ((cN (by omega)).trans ((cN (by omega)).trans d1))
    have c3' : hCe (hSet (hSet (hSet h1 16 5 (skS tp e : Int)) 16 3 (kd (tA tp (skS tp e)))) 16 5 ((skS tp e + 1 : Nat) : Int)) 16 3 = kd (tA tp (skS tp e)) := (cN (by omega)).trans (cS _ _ _ _)
    have jb : (jn k && decide (skS tp e = e)) = true ↔ (jn k = true ∧ skS tp e = e) := by rw [Bool.and_eq_true, decide_eq_true_eq]
    have ad : adv tp (jn k) e = (if jn k = true ∧ skS tp e = e then 3 else kd (tA tp (skS tp e)), skS tp e, if kd (tA tp (skS tp e)) = 3 then skS tp e + 1 else ruS tp (kd (tA tp (skS tp e))) (skS tp e + 1)) := if_neg q
    rw [ad] at wt ⊢
    by_cases z : kd (tA tp (skS tp e)) = 3
    · have F4 : ∀ b : Bool, Fr AKr (hSet (hSet (hSet h1 16 5 (skS tp e : Int)) 16 3 (kd (tA tp (skS tp e)))) 16 5 ((skS tp e + 1 : Nat) : Int)) (jnH b (hSet (hSet (hSet h1 16 5 (skS tp e : Int)) 16 3 (kd (tA tp (skS tp e)))) 16 5 ((skS tp e + 1 : Nat) : Int))) := fun b => by
        cases b with
        | false => exact Fr.rf
        | true => exact Fr.set ⟨rfl, by omega⟩
      have F4 := F4 (jn k && decide (skS tp e = e))
      refine ⟨_, pre2 ?_, ⟨H3.fr F4 fun b j => AKr.mut, t3.fr F4 (by unfold AKr; omega) (fun j => by unfold AKr; omega), ?_, ?_, ?_, wt⟩, F0.tr (F1.tr (F2.tr (F3.tr F4)))⟩
      · obtain ⟨f, hf⟩ : ∃ f, FU = f + 1 := ⟨_, rfl⟩
        rw [hf]
        unfold Reader_advance_137
        refine gB H1.t16 ?_
        rw [c3']
        refine ifT z ?_
        exact jn_if H3
      · show hCe (jnH _ _) 16 3 = (if jn k = true ∧ skS tp e = e then 3 else kd (tA tp (skS tp e)))
        rw [z]
        have : (if jn k = true ∧ skS tp e = e then (3 : Int) else 3) = 3 := by split <;> rfl
        rw [this]
        cases (jn k && decide (skS tp e = e)) with
        | false => exact (cN (by omega)).trans ((cS _ _ _ _))
        | true => exact cS _ _ _ _
      · cases (jn k && decide (skS tp e = e)) with
        | false => rw [z] at c4; exact c4
        | true => rw [z] at c4; exact (cN (by omega)).trans c4
      · show hCe (jnH _ _) 16 5 = ((if kd (tA tp (skS tp e)) = 3 then skS tp e + 1 else ruS tp (kd (tA tp (skS tp e))) (skS tp e + 1) : Nat) : Int)
        rw [if_pos z]
        cases (jn k && decide (skS tp e = e)) with
        | false => exact cS _ _ _ _
        | true => exact (cN (by omega)).trans (cS _ _ _ _)
    · obtain ⟨h4, e4, d5, d4, d3, F4⟩ := a137 z (tp.length - (skS tp e + 1)) FU (skS tp e + 1) _ (jn k && decide (skS tp e = e)) (by omega) (fu_big (by omega)) H3 t3 c3' (cS _ _ _ _)
      refine ⟨h4, pre2 e4, ⟨H3.fr F4 fun b j => AKr.mut, t3.fr F4 (by unfold AKr; omega) (fun j => by unfold AKr; omega), d3.trans ?_, d4.trans c4, d5.trans ?_, wt⟩, F0.tr (F1.tr (F2.tr (F3.tr F4)))⟩
      · show _ = (if jn k = true ∧ skS tp e = e then 3 else kd (tA tp (skS tp e)))
        by_cases y : jn k = true ∧ skS tp e = e
        · rw [if_pos y, if_pos (jb.mpr y)]
        · rw [if_neg y, if_neg (fun w => y (jb.mp w))]
      · show _ = ((if kd (tA tp (skS tp e)) = 3 then skS tp e + 1 else ruS tp (kd (tA tp (skS tp e))) (skS tp e + 1) : Nat) : Int)
        rw [if_neg z]
        rfl
end ADV
