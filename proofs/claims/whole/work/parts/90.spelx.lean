/-! spell: a line as a text, by the class -/
def rwS (b : Bool) : List Int → List RW → List Int
  | l, [] => l
  | l, r :: rs => rwS b (if b = true then inS (inS (inS l r.1.toNat) r.2.1.toNat) r.2.2.toNat else inS (inS l r.1.toNat) r.2.1.toNat) rs
def nmS (s : Int) : Nat := if s = 1 then 0 else if s = 2 then 1 else if s = 3 then 2 else if s = 4 then 3 else 4
def spA (l : LN) : List Int := inS (wdS [] (nmS l.1.2.1)) l.1.1.toNat
def spB (l : LN) : List Int := if l.1.2.1 = 3 ∨ l.1.2.1 = 4 then inS (inS (wdS (spA l) 7) l.1.2.2.1.toNat) l.1.2.2.2.toNat else spA l
def spC (l : LN) : List Int := if l.1.2.1 = 1 then inS (wdS (spB l) 5) (if l.2.1.length = 0 then 2 else (gt l.2.1 0).2.2.toNat) else spB l
def spD (l : LN) : List Int := if l.1.2.1 = 4 then rwS false (wdS (rwS true (wdS (spC l) 8) l.2.1) 9) l.2.2 else if l.1.2.1 = 0 then spC l else rwS false (rwS (decide (l.1.2.1 = 2)) (wdS (spC l) 6) l.2.1) l.2.2
def spS (l : LN) : List Int := spD l ++ [59]
theorem LD.sp {h h' : AH} {a : Int} {l : LN} (L : LD h a l) (ha : 52 ≤ a) (F : Fr SPK h h') : LD h' a l := L.fr F fun b j x y _ z => by unfold SPK at z; omega
theorem SD.sp {h h' : AH} {s : Int} {l : List RW} (S : SD h s l) (hs : 52 ≤ s) (F : Fr SPK h h') : SD h' s l := S.fr F (fun z => by unfold SPK at z; omega) (fun z => by unfold SPK at z; omega) fun j z => by unfold SPK at z; omega
theorem Sh.sp {h h' : AH} (H : Sh h) (F : Fr SPK h h') : Sh h' := H.fr F fun b j => SPK.mut
theorem okR.q {r : RW} (o : okR r) : (0 ≤ r.1 ∧ r.1 ≤ 1000000000) ∧ r.1.toNat < 10 ^ 10 ∧ (0 ≤ r.2.1 ∧ r.2.1 ≤ 1000000000) ∧ r.2.1.toNat < 10 ^ 2 := by
  obtain ⟨a, b, c, d⟩ := o
  refine ⟨⟨by omega, b⟩, ?_, ⟨by omega, by omega⟩, ?_⟩
  · have : (10 : Nat) ^ 10 = 10000000000 := by decide
    omega
  · have : (10 : Nat) ^ 2 = 100 := by decide
    omega
theorem okB.q {b : Int} (o : okB b) : (0 ≤ b ∧ b ≤ 1000000000) ∧ b.toNat < 10 ^ 3 := by
  obtain ⟨a, c⟩ := o
  refine ⟨⟨by omega, by omega⟩, ?_⟩
  have : (10 : Nat) ^ 3 = 1000 := by decide
  omega
theorem cr_loop {s : Int} (hs : 52 ≤ s) {rs : List RW} (ok : ∀ r ∈ rs, okR r) {b : Bool} (okb : b = true → ∀ r ∈ rs, okB r.2.2) : ∀ (n f i : Nat) (h : AH) (l : List Int), i + n = rs.length → n < f → Sh h → SD h s rs → TX h 22 1 23 l → l.length ≠ 0 → (b = true → l.length + 18 * n ≤ 400) → (b = false → l.length + 14 * n ≤ 400) → ∃ h', Speller_writeRows_2 f 22 s (b2i b) i h = some h' ∧ TX h' 22 1 23 (rwS b l (rs.drop i)) ∧ Fr SPK h h' := by
  intro n
  induction n with
  | zero =>
    intro f i h l hi hf H S t l0 b1 b2
    obtain ⟨f, rfl, -⟩ := fu_pos hf
    rw [dr_e (by omega)]
    refine ⟨h, ?_, t, Fr.rf⟩
    unfold Speller_writeRows_2
    refine gB S.1.1 ?_
    rw [S.2.1]
    exact ifF (by omega) rfl
  | succ n ih =>
    intro f i h l hi hf H S t l0 b1 b2
    obtain ⟨f, rfl, hf⟩ := fu_pos hf
    have hi' : i < rs.length := by omega
    have i9 := S.2.2.1
    obtain ⟨q1, q2, q3, q4⟩ := (ok _ (gt_mem hi')).q
    have lb : l.length + 14 * (n + 1) ≤ 400 := by cases b with
      | true => have := b1 rfl; omega
      | false => exact b2 rfl
    obtain ⟨h1, e1, t1, F1⟩ := c_int H t l0 q1 q2 (by omega) (by omega) (by omega)
    have n1 := inS_len (l := l) q2 (by omega) (by omega)
    have H1 := H.sp F1
    have S1 := S.sp hs F1
    obtain ⟨h2, e2, t2, F2⟩ := c_int H1 t1 (by omega) q3 q4 (by omega) (by omega) (by omega)
    have n2 := inS_len (l := inS l (gt rs i).1.toNat) q4 (by omega) (by omega)
    have H2 := H1.sp F2
    have S2 := S1.sp hs F2
    rw [gt_dr hi']
    cases b with
    | false =>
      have b2 := b2 rfl
      obtain ⟨h3, e3, t3, F3⟩ := ih f (i + 1) h2 _ (by omega) (by omega) H2 S2 t2 (by omega) (fun z => by cases z) (fun _ => by omega)
      refine ⟨h3, ?_, t3, F1.tr (F2.tr F3)⟩
      unfold Speller_writeRows_2
      refine gB S.1.1 ?_
      rw [S.2.1]
      refine ifT (by omega) ?_
      refine gB S.1.1 ?_
      refine cB (s_cell0 S hi') ?_
      refine gB H.t22 ?_
      refine cB e1 ?_
      refine gB S1.1.1 ?_
      refine cB (s_cell1 S1 hi') ?_
      refine gB H1.t22 ?_
      refine cB e2 ?_
      refine ifT rfl ?_
      rw [w32_e (z := (i : Int) + 1) (by omega)]
      exact e3
    | true =>
      have b1 := b1 rfl
      obtain ⟨q5, q6⟩ := (okb rfl _ (gt_mem hi')).q
      obtain ⟨h3, e3, t3, F3⟩ := c_int H2 t2 (by omega) q5 q6 (by omega) (by omega) (by omega)
      have n3 := inS_len (l := inS (inS l (gt rs i).1.toNat) (gt rs i).2.1.toNat) q6 (by omega) (by omega)
      have H3 := H2.sp F3
      have S3 := S2.sp hs F3
      obtain ⟨h4, e4, t4, F4⟩ := ih f (i + 1) h3 _ (by omega) (by omega) H3 S3 t3 (by omega) (fun _ => by omega) (fun z => by cases z)
      refine ⟨h4, ?_, t4, F1.tr (F2.tr (F3.tr F4))⟩
      unfold Speller_writeRows_2
      refine gB S.1.1 ?_
      rw [S.2.1]
      refine ifT (by omega) ?_
      refine gB S.1.1 ?_
      refine cB (s_cell0 S hi') ?_
      refine gB H.t22 ?_
      refine cB e1 ?_
      refine gB S1.1.1 ?_
      refine cB (s_cell1 S1 hi') ?_
      refine gB H1.t22 ?_
      refine cB e2 ?_
      refine ifF one_ne ?_
      refine gB S2.1.1 ?_
      refine cB (s_cell2 S2 hi') ?_
      refine gB H2.t22 ?_
      refine cB e3 ?_
      rw [w32_e (z := (i : Int) + 1) (by omega)]
      exact e4
theorem rwS_len {b : Bool} : ∀ {rs : List RW} {l : List Int}, (∀ r ∈ rs, okR r) → (b = true → ∀ r ∈ rs, okB r.2.2) → l.length ≤ (rwS b l rs).length ∧ (b = true → (rwS b l rs).length ≤ l.length + 18 * rs.length) ∧ (b = false → (rwS b l rs).length ≤ l.length + 14 * rs.length)
  | [], l, _, _ => ⟨Nat.le_refl _, fun _ => Nat.le_add_right _ _, fun _ => Nat.le_add_right _ _⟩
  | r :: rs, l, ok, okb => by
    obtain ⟨-, q2, -, q4⟩ := (ok r List.mem_cons_self).q
    have n1 := inS_len (l := l) q2 (by omega) (by omega)
    have n2 := inS_len (l := inS l r.1.toNat) q4 (by omega) (by omega)
    have g1 : l.length ≤ (inS l r.1.toNat).length := by unfold inS; rw [List.length_append, List.length_append]; omega
    have g2 : (inS l r.1.toNat).length ≤ (inS (inS l r.1.toNat) r.2.1.toNat).length := by
      generalize inS l r.1.toNat = x
      unfold inS; rw [List.length_append, List.length_append]; omega
    cases b with
    | false =>
      obtain ⟨a1, -, a3⟩ := rwS_len (b := false) (rs := rs) (l := inS (inS l r.1.toNat) r.2.1.toNat) (fun x hx => ok x (List.mem_cons_of_mem _ hx)) (fun z => by cases z)
      have a3 := a3 rfl
      show l.length ≤ (rwS false (inS (inS l r.1.toNat) r.2.1.toNat) rs).length ∧ (false = true → (rwS false (inS (inS l r.1.toNat) r.2.1.toNat) rs).length ≤ l.length + 18 * (rs.length + 1)) ∧ (false = false → (rwS false (inS (inS l r.1.toNat) r.2.1.toNat) rs).length ≤ l.length + 14 * (rs.length + 1))
      exact ⟨by omega, (fun z => by cases z), fun _ => by omega⟩
    | true =>
      obtain ⟨-, q6⟩ := (okb rfl r List.mem_cons_self).q
      have n3 := inS_len (l := inS (inS l r.1.toNat) r.2.1.toNat) q6 (by omega) (by omega)
      have g3 : (inS (inS l r.1.toNat) r.2.1.toNat).length ≤ (inS (inS (inS l r.1.toNat) r.2.1.toNat) r.2.2.toNat).length := by
        generalize inS (inS l r.1.toNat) r.2.1.toNat = x
        unfold inS; rw [List.length_append, List.length_append]; omega
      obtain ⟨a1, a2, -⟩ := rwS_len (b := true) (rs := rs) (l := inS (inS (inS l r.1.toNat) r.2.1.toNat) r.2.2.toNat) (fun x hx => ok x (List.mem_cons_of_mem _ hx)) (fun _ x hx => okb rfl x (List.mem_cons_of_mem _ hx))
      have a2 := a2 rfl
      show l.length ≤ (rwS true (inS (inS (inS l r.1.toNat) r.2.1.toNat) r.2.2.toNat) rs).length ∧ (true = true → (rwS true (inS (inS (inS l r.1.toNat) r.2.1.toNat) r.2.2.toNat) rs).length ≤ l.length + 18 * (rs.length + 1)) ∧ (true = false → (rwS true (inS (inS (inS l r.1.toNat) r.2.1.toNat) r.2.2.toNat) rs).length ≤ l.length + 14 * (rs.length + 1))
      exact ⟨by omega, fun _ => by omega, fun z => by cases z⟩
/-- what goes from step to step: the line at a stands, t is written -/
def WS (h0 h : AH) (a : Int) (l : LN) (t : List Int) : Prop := Sh h ∧ LD h a l ∧ TX h 22 1 23 t ∧ Fr SPK h0 h
section WR
variable {h0 h : AH} {a : Int} {l : LN} {t : List Int}
theorem WS.word (ha : 52 ≤ a) (W : WS h0 h a l t) {s : Nat} (hs : s < 10) (hl : t.length + 6 ≤ 400) : ∃ h', Speller_writeWord 22 s h = some h' ∧ WS h0 h' a l (wdS t s) := by
  obtain ⟨h', e, t', F⟩ := c_word W.1 W.2.2.1 hs hl
  exact ⟨h', e, W.1.sp F, W.2.1.sp ha F, t', W.2.2.2.tr F⟩
theorem WS.int (ha : 52 ≤ a) (W : WS h0 h a l t) (l0 : t.length ≠ 0) {v : Int} (k : Nat) (hv : 0 ≤ v ∧ v ≤ 1000000000) (vk : v.toNat < 10 ^ k) (k1 : 1 ≤ k) (k10 : k ≤ 10) (hl : t.length + 1 + k ≤ 400) : ∃ h', Speller_writeInt 22 v h = some h' ∧ WS h0 h' a l (inS t v.toNat) := by
  obtain ⟨h', e, t', F⟩ := c_int W.1 W.2.2.1 l0 hv vk k1 k10 hl
  exact ⟨h', e, W.1.sp F, W.2.1.sp ha F, t', W.2.2.2.tr F⟩
theorem WS.down (ha : 52 ≤ a) (W : WS h0 h a l t) (ok : okL l) (l0 : t.length ≠ 0) {b : Bool} (b1 : b = true → t.length + 18 * 9 ≤ 400) (b2 : b = false → t.length + 14 * 9 ≤ 400) : ∃ h', Speller_writeRows 22 (a + 1) (b2i b) h = some h' ∧ WS h0 h' a l (rwS b t l.2.1) := by
  have l9 := W.2.1.2.2.1.2.2.1
  obtain ⟨h', e, t', F⟩ := cr_loop (s := a + 1) (by omega) (fun r hr => (ok.2.2.2.1 r hr).1) (b := b) (fun _ r hr => (ok.2.2.2.1 r hr).2) l.2.1.length FU 0 h t (by omega) (fu_big (by omega)) W.1 W.2.1.2.2.1 W.2.2.1 l0 (fun z => by have := b1 z; omega) (fun z => by have := b2 z; omega)
  rw [List.drop_zero] at t'
  exact ⟨h', e, W.1.sp F, W.2.1.sp ha F, t', W.2.2.2.tr F⟩
theorem WS.up (ha : 52 ≤ a) (W : WS h0 h a l t) (ok : okL l) (l0 : t.length ≠ 0) (b2 : t.length + 14 * 9 ≤ 400) : ∃ h', Speller_writeRows 22 (a + 3) 0 h = some h' ∧ WS h0 h' a l (rwS false t l.2.2) := by
  have l9 := W.2.1.2.2.2.2.2.1
  obtain ⟨h', e, t', F⟩ := cr_loop (s := a + 3) (by omega) (fun r hr => (ok.2.2.2.2.1 r hr).1) (b := false) (fun z => by cases z) l.2.2.length FU 0 h t (by omega) (fu_big (by omega)) W.1 W.2.1.2.2.2 W.2.2.1 l0 (fun z => by cases z) (fun z => by omega)
  rw [List.drop_zero] at t'
  exact ⟨h', e, W.1.sp F, W.2.1.sp ha F, t', W.2.2.2.tr F⟩
theorem WS.fin (W : WS h0 h a l t) (hl : t.length < 400) : ∃ h', Speller_write_178 22 h = some h' ∧ TX h' 22 1 23 (t ++ [59]) ∧ Fr SPK h0 h' ∧ (t ++ [59]).length ≤ 400 := by
  obtain ⟨h', e, t', F⟩ := c_sign W.1 W.2.2.1 hl (c := 59) (by omega)
  refine ⟨h', ?_, t', W.2.2.2.tr F, by rw [List.length_append]; exact hl⟩
  unfold Speller_write_178
  refine gB W.1.t22 ?_
  exact cB e rfl
end WR
theorem wr_94 {h0 h : AH} {a : Int} (ha : 52 ≤ a) {l : LN} (ok : okL l) (W : WS h0 h a l (spC l)) (c0 : (spC l).length ≠ 0) (c1 : (spC l).length ≤ 35) : ∃ h', Speller_write_94 22 a h = some h' ∧ TX h' 22 1 23 (spS l) ∧ Fr SPK h0 h' ∧ (spS l).length ≤ 400 := by
  have L := W.2.1
  have d9 := L.2.2.1.2.2.1
  have u9 := L.2.2.2.2.2.1
  have okd : ∀ r ∈ l.2.1, okR r := fun r hr => (ok.2.2.2.1 r hr).1
  have okb : ∀ r ∈ l.2.1, okB r.2.2 := fun r hr => (ok.2.2.2.1 r hr).2
  have oku : ∀ r ∈ l.2.2, okR r := fun r hr => (ok.2.2.2.2.1 r hr).1
  unfold spS spD
  by_cases s4 : l.1.2.1 = 4
  · rw [if_pos s4]
    have w1 := wdS_len (spC l) 8
    obtain ⟨h1, e1, W1⟩ := W.word ha (s := 8) (by omega) (by omega)
    obtain ⟨h2, e2, W2⟩ := W1.down ha ok (by omega) (b := true) (fun _ => by omega) (fun z => by cases z)
    have w2 := rwS_len (b := true) (rs := l.2.1) (l := wdS (spC l) 8) okd fun _ => okb
    have w2' := w2.2.1 rfl
    have w3 := wdS_len (rwS true (wdS (spC l) 8) l.2.1) 9
    obtain ⟨h3, e3, W3⟩ := W2.word ha (s := 9) (by omega) (by omega)
    obtain ⟨h4, e4, W4⟩ := W3.up ha ok (by omega) (by omega)
    have w4 := rwS_len (b := false) (rs := l.2.2) (l := wdS (rwS true (wdS (spC l) 8) l.2.1) 9) oku fun z => by cases z
    have w4' := w4.2.2 rfl
    obtain ⟨h5, e5, t5, F5⟩ := W4.fin (by omega)
    refine ⟨h5, ?_, t5, F5⟩
    unfold Speller_write_94
    refine gB L.1.1 ?_
    rw [L.2.1.2.1]
    refine ifT s4 ?_
    refine gB W.1.t22 ?_
    refine cB e1 ?_
    refine gB W1.2.1.1.1 ?_
    rw [W1.2.1.1.p0]
    refine gB W1.1.t22 ?_
    refine cB e2 ?_
    refine gB W2.1.t22 ?_
    refine cB e3 ?_
    refine gB W3.2.1.1.1 ?_
    rw [W3.2.1.1.p1]
    refine gB W3.1.t22 ?_
    refine cB e4 ?_
    exact e5
  rw [if_neg s4]
  by_cases s0 : l.1.2.1 = 0
  · rw [if_pos s0]
    obtain ⟨h5, e5, t5, F5⟩ := W.fin (by omega)
    refine ⟨h5, ?_, t5, F5⟩
    unfold Speller_write_94
    refine gB L.1.1 ?_
    rw [L.2.1.2.1]
    refine ifF s4 ?_
    refine gB L.1.1 ?_
    exact ifT s0 e5
  rw [if_neg s0]
  have w1 := wdS_len (spC l) 6
  obtain ⟨h1, e1, W1⟩ := W.word ha (s := 6) (by omega) (by omega)
  obtain ⟨h2, e2, W2⟩ := W1.down ha ok (by omega) (b := decide (l.1.2.1 = 2)) (fun _ => by omega) (fun z => by omega)
  have w2 := rwS_len (b := decide (l.1.2.1 = 2)) (rs := l.2.1) (l := wdS (spC l) 6) okd fun _ => okb
  have w2' : (rwS (decide (l.1.2.1 = 2)) (wdS (spC l) 6) l.2.1).length ≤ (wdS (spC l) 6).length + 18 * l.2.1.length := by
    cases z : decide (l.1.2.1 = 2) with
    | true => rw [z] at w2; exact w2.2.1 rfl
    | false => rw [z] at w2; have := w2.2.2 rfl; omega
  obtain ⟨h4, e4, W4⟩ := W2.up ha ok (by omega) (by omega)
  have w4 := rwS_len (b := false) (rs := l.2.2) (l := rwS (decide (l.1.2.1 = 2)) (wdS (spC l) 6) l.2.1) oku fun z => by cases z
  have w4' := w4.2.2 rfl
  obtain ⟨h5, e5, t5, F5⟩ := W4.fin (by omega)
  refine ⟨h5, ?_, t5, F5⟩
  have go : Speller_write_166 22 a (b2i (decide (l.1.2.1 = 2))) (a + 1) 22 h1 = some h5 := by
    unfold Speller_write_166
    refine gB W1.1.t22 ?_
    refine cB e2 ?_
    refine gB W2.2.1.1.1 ?_
    rw [W2.2.1.1.p1]
    refine gB W2.1.t22 ?_
    refine cB e4 ?_
    exact e5
  unfold Speller_write_94
  refine gB L.1.1 ?_
  rw [L.2.1.2.1]
  refine ifF s4 ?_
  refine gB L.1.1 ?_
  refine ifF s0 ?_
  refine gB W.1.t22 ?_
  refine cB e1 ?_
  refine gB W1.2.1.1.1 ?_
  rw [W1.2.1.1.p0]
  refine gB W1.2.1.1.1 ?_
  rw [W1.2.1.2.1.2.1]
  by_cases s2 : l.1.2.1 = 2
  · rw [decide_eq_true s2] at go; exact ifT s2 go
  · rw [decide_eq_false s2] at go; exact ifF s2 go
theorem wr_53 {h0 h : AH} {a : Int} (ha : 52 ≤ a) {l : LN} (ok : okL l) (W : WS h0 h a l (spB l)) (c0 : (spB l).length ≠ 0) (c1 : (spB l).length ≤ 23 ∨ ((spB l).length ≤ 29 ∧ l.1.2.1 ≠ 1)) : ∃ h', Speller_write_53 22 a h = some h' ∧ TX h' 22 1 23 (spS l) ∧ Fr SPK h0 h' ∧ (spS l).length ≤ 400 := by
  have L := W.2.1
  by_cases s1 : l.1.2.1 = 1
  · have w1 := wdS_len (spB l) 5
    obtain ⟨h1, e1, W1⟩ := W.word ha (s := 5) (by omega) (by omega)
    have c1' : (spB l).length ≤ 23 := by omega
    have bb : ∀ v : Int, (0 ≤ v ∧ v ≤ 1000000000) → v.toNat < 10 ^ 3 → v.toNat = (if l.2.1.length = 0 then 2 else (gt l.2.1 0).2.2.toNat) → ∃ h', Speller_write_91 22 a v 22 h1 = some h' ∧ TX h' 22 1 23 (spS l) ∧ Fr SPK h0 h' ∧ (spS l).length ≤ 400 := by
      intro v hv v3 ve
      obtain ⟨h2, e2, W2⟩ := W1.int ha (by omega) 3 hv v3 (by omega) (by omega) (by omega)
      have n2 := inS_len (l := wdS (spB l) 5) v3 (by omega) (by omega)
      have eC : spC l = inS (wdS (spB l) 5) v.toNat := by unfold spC; rw [if_pos s1, ve]
      rw [← eC] at W2 n2
      obtain ⟨h3, e3, t3, F3⟩ := wr_94 ha ok W2 (by omega) (by omega)
      refine ⟨h3, ?_, t3, F3⟩
      unfold Speller_write_91
      refine gB W1.1.t22 ?_
      exact cB e2 e3
    have pre : ∀ {r}, (if 0 < (l.2.1.length : Int) then ((gd (hTy h1 a = 4) (hCe h1 a 0)).bind fun u6 => (gd (hTy h1 u6 = 6) 0).bind fun _ => (Side_cell u6 0 2 h1).bind fun u7 => Speller_write_91 22 a u7 22 h1) else Speller_write_91 22 a 2 22 h1) = r → Speller_write_53 22 a h = r := by
      rintro r rfl
      unfold Speller_write_53
      refine gB L.1.1 ?_
      rw [L.2.1.2.1]
      refine ifT s1 ?_
      refine gB W.1.t22 ?_
      refine cB e1 ?_
      refine gB W1.2.1.1.1 ?_
      rw [W1.2.1.1.p0]
      refine gB W1.2.1.2.2.1.1.1 ?_
      rw [W1.2.1.2.2.1.2.1]
    by_cases d0 : l.2.1.length = 0
    · obtain ⟨h', e, t, F⟩ := bb 2 (by omega) (by decide) (by rw [if_pos d0]; rfl)
      exact ⟨h', pre ((if_neg (by omega)).trans e), t, F⟩
    · obtain ⟨b1, b2⟩ := (ok.2.2.2.1 _ (gt_mem (show 0 < l.2.1.length by omega))).2.q
      obtain ⟨h', e, t, F⟩ := bb _ b1 b2 (by rw [if_neg d0])
      refine ⟨h', pre ((if_pos (by omega)).trans ?_), t, F⟩
      refine gB W1.2.1.1.1 ?_
      rw [W1.2.1.1.p0]
      refine gB W1.2.1.2.2.1.1.1 ?_
      exact cB (s_cell2 (i := 0) W1.2.1.2.2.1 (by omega)) e
  · have eC : spC l = spB l := by unfold spC; rw [if_neg s1]
    rw [← eC] at W c0 c1
    obtain ⟨h3, e3, t3, F3⟩ := wr_94 ha ok W c0 (by omega)
    refine ⟨h3, ?_, t3, F3⟩
    unfold Speller_write_53
    refine gB L.1.1 ?_
    rw [L.2.1.2.1]
    exact ifF s1 e3
theorem nm_of {s : Int} : Speller_nameOf s = some ((nmS s : Nat) : Int) := by
  unfold Speller_nameOf nmS
  by_cases s1 : s = 1
  · rw [if_pos s1, if_pos s1]; rfl
  rw [if_neg s1, if_neg s1]
  by_cases s2 : s = 2
  · rw [if_pos s2, if_pos s2]; rfl
  rw [if_neg s2, if_neg s2]
  by_cases s3 : s = 3
  · rw [if_pos s3, if_pos s3]; rfl
  rw [if_neg s3, if_neg s3]
  by_cases s4 : s = 4
  · rw [if_pos s4, if_pos s4]; rfl
  rw [if_neg s4, if_neg s4]; rfl
theorem nm_lt (s : Int) : nmS s < 10 := by
  unfold nmS
  split
  · omega
  split
  · omega
  split
  · omega
  split <;> omega
theorem wdC_ne : ∀ s : Nat, s < 10 → 2 ≤ (wdC s).length := by decide
theorem s_write {h : AH} (H : Sh h) {a : Int} (ha : 52 ≤ a) {l : LN} (L : LD h a l) (ok : okL l) : ∃ h', Speller_write 22 a h = some h' ∧ TX h' 22 1 23 (spS l) ∧ Fr SPK h h' ∧ (spS l).length ≤ 400 := by
  have F0 : Fr SPK h (hSet h 22 1 0) := Fr.set (Or.inr ⟨rfl, rfl⟩)
  have W0 : WS h (hSet h 22 1 0) a l [] := ⟨H.sp F0, L.sp ha F0, ⟨cS _ _ _ _, fun i hi => absurd hi (Nat.not_lt_zero i)⟩, F0⟩
  obtain ⟨h1, e1, W1⟩ := W0.word ha (nm_lt l.1.2.1) (by show 0 + 6 ≤ 400; omega)
  have w1 := wdS_len [] (nmS l.1.2.1)
  have w1b : 2 ≤ (wdS [] (nmS l.1.2.1)).length := by
    have := wdC_ne _ (nm_lt l.1.2.1)
    unfold wdS
    rw [if_pos (show ([] : List Int).length = 0 from rfl), List.length_append]
    omega
  have w1' : (wdS [] (nmS l.1.2.1)).length ≤ 6 := w1.1
  obtain ⟨n1, n2⟩ := ok.1
  have p10 : (10 : Nat) ^ 10 = 10000000000 := by decide
  have p2 : (10 : Nat) ^ 2 = 100 := by decide
  obtain ⟨h2, e2, W2⟩ := W1.int ha (v := l.1.1) (by omega) 10 (by omega) (by omega) (by omega) (by omega) (by omega)
  have w2 := inS_len (l := wdS [] (nmS l.1.2.1)) (v := l.1.1.toNat) (k := 10) (by omega) (by omega) (by omega)
  have W2' : WS h h2 a l (spA l) := W2
  have w2' : (spA l).length ≤ (wdS [] (nmS l.1.2.1)).length + 1 + 10 ∧ 2 ≤ (spA l).length := w2
  have pre : ∀ {r}, (if l.1.2.1 = 3 ∨ l.1.2.1 = 4 then ((Speller_writeWord 22 7 h2).bind fun h11 => (gd (hTy h11 a = 4) (hCe h11 a 4)).bind fun u12 => (gd (hTy h11 22 = 7) 0).bind fun _ => (Speller_writeInt 22 u12 h11).bind fun h14 => (gd (hTy h14 a = 4) (hCe h14 a 5)).bind fun u15 => (gd (hTy h14 22 = 7) 0).bind fun _ => (Speller_writeInt 22 u15 h14).bind fun h17 => Speller_write_53 22 a h17) else Speller_write_53 22 a h2) = r → Speller_write 22 a h = r := by
    rintro r rfl
    unfold Speller_write
    refine gB H.t22 ?_
    refine gB W0.2.1.1.1 ?_
    rw [W0.2.1.2.1.2.1]
    refine cB nm_of ?_
    refine gB W0.1.t22 ?_
    refine cB e1 ?_
    refine gB W1.2.1.1.1 ?_
    rw [W1.2.1.2.1.1]
    refine gB W1.1.t22 ?_
    refine cB e2 ?_
    refine gB W2.2.1.1.1 ?_
    refine hpq_if W2.2.1 ?_
    by_cases q : l.1.2.1 = 3 ∨ l.1.2.1 = 4
    · rw [if_pos q, if_pos q]; exact gB W2.1.t22 rfl
    · rw [if_neg q, if_neg q]
  by_cases q : l.1.2.1 = 3 ∨ l.1.2.1 = 4
  · obtain ⟨⟨a1, a2⟩, ⟨b1, b2⟩⟩ := ok.2.2.2.2.2.2.2.1 (by omega)
    have w3 := wdS_len (spA l) 7
    obtain ⟨h3, e3, W3⟩ := W2'.word ha (s := 7) (by omega) (by omega)
    obtain ⟨h4, e4, W4⟩ := W3.int ha (v := l.1.2.2.1) (by omega) 2 (by omega) (by omega) (by omega) (by omega) (by omega)
    have w4 := inS_len (l := wdS (spA l) 7) (v := l.1.2.2.1.toNat) (k := 2) (by omega) (by omega) (by omega)
    obtain ⟨h5, e5, W5⟩ := W4.int ha (v := l.1.2.2.2) (by omega) 2 (by omega) (by omega) (by omega) (by omega) (by omega)
    have w5 := inS_len (l := inS (wdS (spA l) 7) l.1.2.2.1.toNat) (v := l.1.2.2.2.toNat) (k := 2) (by omega) (by omega) (by omega)
    have eB : spB l = inS (inS (wdS (spA l) 7) l.1.2.2.1.toNat) l.1.2.2.2.toNat := if_pos q
    rw [← eB] at W5 w5
    obtain ⟨h6, e6, t6, F6⟩ := wr_53 ha ok W5 (by omega) (by omega)
    refine ⟨h6, pre ((if_pos q).trans ?_), t6, F6⟩
    refine cB e3 ?_
    refine gB W3.2.1.1.1 ?_
    rw [W3.2.1.2.1.2.2.1]
    refine gB W3.1.t22 ?_
    refine cB e4 ?_
    refine gB W4.2.1.1.1 ?_
    rw [W4.2.1.2.1.2.2.2]
    refine gB W4.1.t22 ?_
    exact cB e5 e6
  · have eB : spB l = spA l := if_neg q
    rw [← eB] at W2' w2'
    obtain ⟨h6, e6, t6, F6⟩ := wr_53 ha ok W2' (by omega) (by omega)
    exact ⟨h6, pre ((if_neg q).trans e6), t6, F6⟩
