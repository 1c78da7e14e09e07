/-! spell: the words and the numbers of a text -/
theorem gdA {l : List Int} {c : Int} {i : Nat} (hi : i < l.length + 1) : (l ++ [c]).getD i 0 = if i = l.length then c else l.getD i 0 := by
  rw [List.getD_eq_getElem?_getD, List.getD_eq_getElem?_getD]
  by_cases q : i = l.length
  · subst q; rw [if_pos rfl, List.getElem?_append_right (Nat.le_refl _), Nat.sub_self]; rfl
  · rw [if_neg q, List.getElem?_append_left (by omega)]
/-- a text stands in an array at a; how long it is: field f of o -/
def TX (h : AH) (o f a : Int) (l : List Int) : Prop := hCe h o f = (l.length : Int) ∧ ∀ i : Nat, i < l.length → hCe h a i = l.getD i 0
theorem TX.push {h : AH} {o f a : Int} {l : List Int} (t : TX h o f a l) (ne : a ≠ o) {x : Int} : TX (hSet (hSet h a (l.length : Int) x) o f ((l.length : Int) + 1)) o f a (l ++ [x]) := by
  refine ⟨by rw [cS, List.length_append]; rfl, fun i hi => ?_⟩
  rw [List.length_append] at hi
  have hi' : i < l.length + 1 := hi
  rw [cN (by omega), gdA hi']
  by_cases q : i = l.length
  · subst q; rw [if_pos rfl, cS]
  · rw [if_neg q, cN (by omega)]; exact t.2 i (by omega)
/-- the signs of the words, of numbers -/
def wdC (s : Nat) : List Int := ((aStr[s]?).getD []).map Int.ofNat
def dgF (v : Nat) : Nat → List Int
  | 0 => []
  | k + 1 => ((48 + v / 10 ^ k % 10 : Nat) : Int) :: dgF v k
def ndF (v : Nat) : Nat → Nat
  | 0 => 1
  | k + 1 => if 0 < v / 10 ^ (k + 1) % 10 then k + 2 else ndF v k
def itC (v : Nat) : List Int := dgF v (ndF v 9)
theorem dg_len (v : Nat) : ∀ k, (dgF v k).length = k
  | 0 => rfl
  | k + 1 => congrArg Nat.succ (dg_len v k)
theorem nd_le (v : Nat) : ∀ k, 1 ≤ ndF v k ∧ ndF v k ≤ k + 1
  | 0 => ⟨Nat.le_refl _, Nat.le_refl _⟩
  | k + 1 => by
    have := nd_le v k
    unfold ndF
    split <;> omega
theorem p10_pos (k : Nat) : 0 < 10 ^ k := Nat.pow_pos (by omega)
theorem dv10 {v k : Nat} (h : v < 10 ^ (k + 1)) : v / 10 ^ k < 10 := by
  refine Nat.div_lt_of_lt_mul ?_
  rw [Nat.pow_succ] at h
  exact h
/-- the number of digits is the least that is enough -/
theorem nd_is {v : Nat} : ∀ k, v < 10 ^ (k + 1) → v < 10 ^ ndF v k ∧ (ndF v k = 1 ∨ 10 ^ (ndF v k - 1) ≤ v)
  | 0, h => ⟨h, Or.inl rfl⟩
  | k + 1, h => by
    have d := dv10 h
    unfold ndF
    by_cases q : 0 < v / 10 ^ (k + 1) % 10
    · rw [if_pos q]
      refine ⟨h, Or.inr ?_⟩
      show 10 ^ (k + 1) ≤ v
      rcases Nat.lt_or_ge v (10 ^ (k + 1)) with z | z
      · rw [Nat.div_eq_of_lt z] at q; exact absurd q (by decide)
      · exact z
    · rw [if_neg q]
      refine nd_is k ?_
      rcases Nat.lt_or_ge v (10 ^ (k + 1)) with z | z
      · exact z
      · have := (Nat.one_le_div_iff (p10_pos (k + 1))).mpr z
        omega
theorem nd_uniq {v a b : Nat} (ha : v < 10 ^ a) (a1 : 1 ≤ a) (b1 : 1 ≤ b) (hb : b = 1 ∨ 10 ^ (b - 1) ≤ v) : b ≤ a := by
  rcases hb with q | q
  · omega
  · rcases Nat.lt_or_ge a b with z | z
    · have := Nat.pow_le_pow_right (n := 10) (by omega) (show a ≤ b - 1 by omega)
      omega
    · exact z
theorem nd_lt {v k : Nat} (hv : v < 10 ^ k) (k1 : 1 ≤ k) (k10 : k ≤ 10) : ndF v 9 ≤ k := by
  have h10 : v < 10 ^ (9 + 1) := Nat.lt_of_lt_of_le hv (Nat.pow_le_pow_right (by omega) k10)
  exact nd_uniq hv k1 (nd_le v 9).1 (nd_is 9 h10).2
def wdS (l : List Int) (s : Nat) : List Int := (if l.length = 0 then l else l ++ [32]) ++ wdC s
def inS (l : List Int) (v : Nat) : List Int := (l ++ [32]) ++ itC v
theorem wdC_len : ∀ s : Nat, (wdC s).length ≤ 5
  | 0 | 1 | 2 | 3 | 4 | 5 | 6 | 7 | 8 | 9 => by decide
  | n + 10 => by unfold wdC aStr; exact Nat.zero_le 5
theorem wdS_len (l : List Int) (s : Nat) : (wdS l s).length ≤ l.length + 6 ∧ l.length ≤ (wdS l s).length := by
  have := wdC_len s
  unfold wdS
  rw [List.length_append]
  by_cases q : l.length = 0
  · rw [if_pos q]; omega
  · rw [if_neg q, List.length_append]
    show l.length + 1 + _ ≤ _ ∧ _ ≤ l.length + 1 + _
    omega
theorem inS_len {l : List Int} {v k : Nat} (hv : v < 10 ^ k) (k1 : 1 ≤ k) (k10 : k ≤ 10) : (inS l v).length ≤ l.length + 1 + k ∧ 2 ≤ (inS l v).length := by
  have := nd_lt hv k1 k10
  have := (nd_le v 9).1
  unfold inS itC
  rw [List.length_append, List.length_append, dg_len]
  show l.length + 1 + _ ≤ _ ∧ _ ≤ l.length + 1 + _
  omega
/-! ### the class writes -/
def SPK (b j : Int) : Prop := b = 23 ∨ (b = 22 ∧ j = 1)
theorem SPK.mut {b j : Int} (z : SPK b j) : Mut b j := mutB (by unfold SPK at z; unfold MutB; omega)
theorem c_sign {h : AH} (H : Sh h) {l : List Int} (t : TX h 22 1 23 l) (hl : l.length < 400) {c : Int} (hc : 0 ≤ c ∧ c < 65536) : ∃ h', Speller_writeSign 22 c h = some h' ∧ TX h' 22 1 23 (l ++ [c]) ∧ Fr SPK h h' := by
  refine ⟨_, ?_, t.push (by omega), (Fr.set (Or.inl rfl)).setT (Or.inr ⟨rfl, rfl⟩)⟩
  unfold Speller_writeSign
  refine gB H.t22 ?_
  rw [t.1]
  refine ifT (by omega) ?_
  refine gB H.t22 ?_
  rw [H.p22_0]
  refine gB H.t22 ?_
  refine gB ⟨⟨H.t23, by omega, by rw [H.l23]; omega⟩, hc⟩ ?_
  refine gB H.t22 ?_
  refine gB H.t22 ?_
  rw [cN (a := 23) (b := 22) (by omega), t.1, w32_e (z := (l.length : Int) + 1) (by omega)]
theorem c_blank {h : AH} (H : Sh h) {l : List Int} (t : TX h 22 1 23 l) (hl : l.length < 400) : ∃ h', Speller_writeBlank 22 h = some h' ∧ TX h' 22 1 23 (if l.length = 0 then l else l ++ [32]) ∧ Fr SPK h h' := by
  by_cases q : l.length = 0
  · rw [if_pos q]
    refine ⟨h, ?_, t, Fr.rf⟩
    unfold Speller_writeBlank
    refine gB H.t22 ?_
    rw [t.1]
    exact ifF (by omega) rfl
  · rw [if_neg q]
    obtain ⟨h', e, t', F⟩ := c_sign H t hl (c := 32) (by omega)
    refine ⟨h', ?_, t', F⟩
    unfold Speller_writeBlank
    refine gB H.t22 ?_
    rw [t.1]
    refine ifT (by omega) ?_
    refine gB H.t22 ?_
    exact cB e rfl
theorem str_len : ∀ s : Nat, s < 10 → Str_length (s : Int) = some ((wdC s).length : Int) := by decide +kernel
theorem str_at : ∀ s : Nat, s < 10 → ∀ i : Nat, i < 5 → i < (wdC s).length → Str_charAt (s : Int) (i : Int) = some ((wdC s).getD i 0) := by decide +kernel
theorem str_ch : ∀ s : Nat, s < 10 → ∀ i : Nat, i < 5 → 0 ≤ (wdC s).getD i 0 ∧ (wdC s).getD i 0 < 128 := by decide +kernel
theorem tk_1 {l : List Int} {i : Nat} (h : i < l.length) : l.take (i + 1) = l.take i ++ [l.getD i 0] := by
  rw [List.take_succ, List.getD_eq_getElem?_getD, List.getElem?_eq_getElem h]
  rfl
theorem cw_loop {l : List Int} {s : Nat} (hs : s < 10) (hl : l.length + 5 ≤ 400) : ∀ (n f i : Nat) (h : AH), i + n = (wdC s).length → n < f → Sh h → TX h 22 1 23 (l ++ (wdC s).take i) → ∃ h', Speller_writeWord_6 f 22 s i h = some h' ∧ TX h' 22 1 23 (l ++ wdC s) ∧ Fr SPK h h' := by
  have w5 := wdC_len s
  intro n
  induction n with
  | zero =>
    intro f i h hi hf H t
    obtain ⟨f, rfl, -⟩ := fu_pos hf
    rw [List.take_of_length_le (by omega)] at t
    refine ⟨h, ?_, t, Fr.rf⟩
    unfold Speller_writeWord_6
    refine gB (by omega) ?_
    refine cB (str_len s hs) ?_
    exact ifF (by omega) rfl
  | succ n ih =>
    intro f i h hi hf H t
    obtain ⟨f, rfl, hf⟩ := fu_pos hf
    have c := str_ch s hs i (by omega)
    have tl : (l ++ (wdC s).take i).length = l.length + i := by rw [List.length_append, List.length_take]; omega
    obtain ⟨h1, e1, t1, F1⟩ := c_sign H t (by omega) (c := (wdC s).getD i 0) (by omega)
    rw [List.append_assoc, ← tk_1 (by omega)] at t1
    obtain ⟨h2, e2, t2, F2⟩ := ih f (i + 1) h1 (by omega) (by omega) (H.fr F1 fun b j => SPK.mut) t1
    refine ⟨h2, ?_, t2, F1.tr F2⟩
    unfold Speller_writeWord_6
    refine gB (by omega) ?_
    refine cB (str_len s hs) ?_
    refine ifT (by omega) ?_
    refine gB (by omega) ?_
    refine cB (str_at s hs i (by omega) (by omega)) ?_
    refine gB H.t22 ?_
    refine cB e1 ?_
    rw [w32_e (z := (i : Int) + 1) (by omega)]
    exact e2
theorem c_word {h : AH} (H : Sh h) {l : List Int} (t : TX h 22 1 23 l) {s : Nat} (hs : s < 10) (hl : l.length + 6 ≤ 400) : ∃ h', Speller_writeWord 22 s h = some h' ∧ TX h' 22 1 23 (wdS l s) ∧ Fr SPK h h' := by
  obtain ⟨h1, e1, t1, F1⟩ := c_blank H t (by omega)
  have H1 := H.fr F1 fun b j => SPK.mut
  have l1 : (if l.length = 0 then l else l ++ [32]).length + 5 ≤ 400 := by
    by_cases q : l.length = 0
    · rw [if_pos q]; omega
    · rw [if_neg q, List.length_append]; show l.length + 1 + 5 ≤ 400; omega
  obtain ⟨h2, e2, t2, F2⟩ := cw_loop hs l1 (wdC s).length FU 0 h1 (by omega) (fu_big (by have := wdC_len s; omega)) H1 (by rw [List.take_zero, List.append_nil]; exact t1)
  refine ⟨h2, ?_, t2, F1.tr F2⟩
  unfold Speller_writeWord
  refine gB H.t22 ?_
  exact cB e1 e2
theorem w32_n {n : Nat} (h : n < 2147483648) : w32 (n : Int) = n := w32_e ⟨by omega, by omega⟩
theorem p10_int (k : Nat) : (((10 ^ k : Nat) : Int)) = 10 ^ k := by rw [Int.natCast_pow]; rfl
/-- one digit -/
theorem ci_step {l : List Int} {v : Nat} (hv : v ≤ 1000000000) {k : Nat} (k9 : k ≤ 9) {f : Nat} {h : AH} (H : Sh h) (t : TX h 22 1 23 l) (hl : l.length < 400) {b : Int} (hb : b = 1 ∨ (b = 0 ∧ (0 < v / 10 ^ k % 10 ∨ k = 0))) : ∃ h', Speller_writeInt_9 (f + 1) 22 v b ((10 ^ k : Nat) : Int) h = Speller_writeInt_9 f 22 v 1 (((10 ^ k : Nat) : Int) / 10) h' ∧ TX h' 22 1 23 (l ++ [((48 + v / 10 ^ k % 10 : Nat) : Int)]) ∧ Fr SPK h h' := by
  have p := p10_pos k
  have p9 : 10 ^ k ≤ 10 ^ 9 := Nat.pow_le_pow_right (by omega) k9
  have dle : v / 10 ^ k ≤ v := Nat.div_le_self _ _
  have dm : v / 10 ^ k % 10 < 10 := Nat.mod_lt _ (by omega)
  have e1 : Int.tdiv (v : Int) ((10 ^ k : Nat) : Int) = ((v / 10 ^ k : Nat) : Int) := td_n
  have e2 : Int.tmod ((v / 10 ^ k : Nat) : Int) 10 = ((v / 10 ^ k % 10 : Nat) : Int) := tm_n (b := 10)
  obtain ⟨h1, g1, t1, F1⟩ := c_sign H t hl (c := ((48 + v / 10 ^ k % 10 : Nat) : Int)) (by omega)
  have go : Speller_writeInt_40 (fun a0 a1 a2 a3 h0 => Speller_writeInt_9 f a0 a1 a2 a3 h0) 22 v ((10 ^ k : Nat) : Int) ((v / 10 ^ k % 10 : Nat) : Int) 1 h = Speller_writeInt_9 f 22 v 1 (((10 ^ k : Nat) : Int) / 10) h1 := by
    unfold Speller_writeInt_40
    refine ifF one_ne ?_
    refine gB H.t22 ?_
    rw [w32_e (z := 48 + ((v / 10 ^ k % 10 : Nat) : Int)) (by omega), show (48 + ((v / 10 ^ k % 10 : Nat) : Int)) % 65536 = ((48 + v / 10 ^ k % 10 : Nat) : Int) by omega]
    refine cB g1 ?_
    refine gB (by omega) ?_
    rw [td_e (by omega), w32_e (by omega)]
  refine ⟨h1, ?_, t1, F1⟩
  conv => lhs; unfold Speller_writeInt_9
  refine ifT (by omega) ?_
  refine gB (by omega) ?_
  rw [e1, w32_n (n := v / 10 ^ k) (Nat.lt_of_le_of_lt dle (by omega))]
  refine gB (by omega) ?_
  rw [e2]
  rcases hb with rfl | ⟨rfl, hb⟩
  · exact ifF one_ne go
  · refine ifT rfl ?_
    by_cases q : 0 < v / 10 ^ k % 10
    · exact ifT (by omega) go
    · refine ifF (by omega) ?_
      have k0 : k = 0 := by omega
      subst k0
      exact ifT rfl go
theorem p10_dv (k : Nat) : (((10 ^ (k + 1) : Nat) : Int)) / 10 = ((10 ^ k : Nat) : Int) := by
  rw [Nat.pow_succ]; omega
theorem ci_out {l : List Int} {v : Nat} (hv : v ≤ 1000000000) : ∀ (k f : Nat) (h : AH) (l : List Int), k ≤ 9 → k + 1 < f → Sh h → TX h 22 1 23 l → l.length + k + 1 ≤ 400 → ∃ h', Speller_writeInt_9 f 22 v 1 ((10 ^ k : Nat) : Int) h = some h' ∧ TX h' 22 1 23 (l ++ dgF v (k + 1)) ∧ Fr SPK h h' := by
  intro k
  induction k with
  | zero =>
    intro f h l k9 hf H t hl
    obtain ⟨f, rfl, hf⟩ := fu_pos (show 0 < f by omega)
    obtain ⟨h1, e1, t1, F1⟩ := ci_step hv k9 (f := f) H t (by omega) (b := 1) (Or.inl rfl)
    refine ⟨h1, ?_, t1, F1⟩
    rw [e1]
    obtain ⟨f, rfl, -⟩ := fu_pos (show 0 < f by omega)
    unfold Speller_writeInt_9
    exact ifF (by decide) rfl
  | succ k ih =>
    intro f h l k9 hf H t hl
    obtain ⟨f, rfl, hf⟩ := fu_pos (show 0 < f by omega)
    obtain ⟨h1, e1, t1, F1⟩ := ci_step hv k9 (f := f) H t (by omega) (b := 1) (Or.inl rfl)
    rw [p10_dv] at e1
    obtain ⟨h2, e2, t2, F2⟩ := ih f h1 _ (by omega) (by omega) (H.fr F1 fun b j => SPK.mut) t1 (by rw [List.length_append]; show l.length + 1 + k + 1 ≤ 400; omega)
    refine ⟨h2, e1.trans e2, ?_, F1.tr F2⟩
    rw [List.append_assoc] at t2
    exact t2
theorem ci_in {v : Nat} (hv : v ≤ 1000000000) : ∀ (k f : Nat) (h : AH) (l : List Int), k ≤ 9 → k + 1 < f → Sh h → TX h 22 1 23 l → l.length + ndF v k ≤ 400 → ∃ h', Speller_writeInt_9 f 22 v 0 ((10 ^ k : Nat) : Int) h = some h' ∧ TX h' 22 1 23 (l ++ dgF v (ndF v k)) ∧ Fr SPK h h' := by
  intro k
  induction k with
  | zero =>
    intro f h l k9 hf H t hl
    have hl' : l.length + 1 ≤ 400 := hl
    obtain ⟨f, rfl, hf⟩ := fu_pos (show 0 < f by omega)
    obtain ⟨h1, e1, t1, F1⟩ := ci_step hv k9 (f := f) H t (by omega) (b := 0) (Or.inr ⟨rfl, Or.inr rfl⟩)
    refine ⟨h1, ?_, t1, F1⟩
    rw [e1]
    obtain ⟨f, rfl, -⟩ := fu_pos (show 0 < f by omega)
    unfold Speller_writeInt_9
    exact ifF (by decide) rfl
  | succ k ih =>
    intro f h l k9 hf H t hl
    obtain ⟨f, rfl, hf⟩ := fu_pos (show 0 < f by omega)
    by_cases q : 0 < v / 10 ^ (k + 1) % 10
    · have nd : ndF v (k + 1) = k + 2 := if_pos q
      rw [nd] at hl ⊢
      obtain ⟨h1, e1, t1, F1⟩ := ci_step hv k9 (f := f) H t (by omega) (b := 0) (Or.inr ⟨rfl, Or.inl q⟩)
      rw [p10_dv] at e1
      obtain ⟨h2, e2, t2, F2⟩ := ci_out (l := l) hv k f h1 _ (by omega) (by omega) (H.fr F1 fun b j => SPK.mut) t1 (by rw [List.length_append]; show l.length + 1 + k + 1 ≤ 400; omega)
      refine ⟨h2, e1.trans e2, ?_, F1.tr F2⟩
      rw [List.append_assoc] at t2
      exact t2
    · have nd : ndF v (k + 1) = ndF v k := if_neg q
      rw [nd] at hl ⊢
      obtain ⟨h2, e2, t2, F2⟩ := ih f h l (by omega) (by omega) H t hl
      refine ⟨h2, ?_, t2, F2⟩
      rw [← e2]
      have p := p10_pos (k + 1)
      have p9 : 10 ^ (k + 1) ≤ 10 ^ 9 := Nat.pow_le_pow_right (by omega) k9
      have p1 : 10 ≤ 10 ^ (k + 1) := by have := p10_pos k; rw [Nat.pow_succ]; omega
      have dle : v / 10 ^ (k + 1) ≤ v := Nat.div_le_self _ _
      have e1 : Int.tdiv (v : Int) ((10 ^ (k + 1) : Nat) : Int) = ((v / 10 ^ (k + 1) : Nat) : Int) := td_n
      have e2 : Int.tmod ((v / 10 ^ (k + 1) : Nat) : Int) 10 = ((v / 10 ^ (k + 1) % 10 : Nat) : Int) := tm_n (b := 10)
      conv => lhs; unfold Speller_writeInt_9
      refine ifT (by omega) ?_
      refine gB (by omega) ?_
      rw [e1, w32_n (n := v / 10 ^ (k + 1)) (Nat.lt_of_le_of_lt dle (by omega))]
      refine gB (by omega) ?_
      rw [e2]
      refine ifT rfl ?_
      refine ifF (by omega) ?_
      refine ifF (by omega) ?_
      unfold Speller_writeInt_40
      refine ifT rfl ?_
      refine gB (by omega) ?_
      rw [td_e (by omega), w32_e (by omega), p10_dv]
theorem c_int {h : AH} (H : Sh h) {l : List Int} (t : TX h 22 1 23 l) (l0 : l.length ≠ 0) {v : Int} {k : Nat} (hv : 0 ≤ v ∧ v ≤ 1000000000) (vk : v.toNat < 10 ^ k) (k1 : 1 ≤ k) (k10 : k ≤ 10) (hl : l.length + 1 + k ≤ 400) : ∃ h', Speller_writeInt 22 v h = some h' ∧ TX h' 22 1 23 (inS l v.toNat) ∧ Fr SPK h h' := by
  obtain ⟨v, rfl⟩ := Int.eq_ofNat_of_zero_le hv.1
  rw [Int.toNat_natCast] at vk ⊢
  have nl := nd_lt vk k1 k10
  obtain ⟨h1, e1, t1, F1⟩ := c_blank H t (by omega)
  rw [if_neg l0] at t1
  obtain ⟨h2, e2, t2, F2⟩ := ci_in (v := v) (by omega) 9 FU h1 _ (Nat.le_refl _) (fu_big (by omega)) (H.fr F1 fun b j => SPK.mut) t1 (by rw [List.length_append]; show l.length + 1 + ndF v 9 ≤ 400; omega)
  refine ⟨h2, ?_, t2, F1.tr F2⟩
  unfold Speller_writeInt
  refine gB H.t22 ?_
  exact cB e1 e2
