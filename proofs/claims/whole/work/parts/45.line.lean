/-! the sides and lines of the class -/
abbrev RW : Type := Int × Int × Int
abbrev LN : Type := (Int × Int × Int × Int) × List RW × List RW
def gt (l : List RW) (i : Nat) : RW := l.getD i (0, 0, 0)
theorem gt_dr {l : List RW} {i : Nat} (h : i < l.length) : l.drop i = gt l i :: l.drop (i + 1) := by
  rw [List.drop_eq_getElem_cons h]
  unfold gt
  rw [List.getD_eq_getElem?_getD, List.getElem?_eq_getElem h]
  rfl
theorem dr_e {α : Type} {l : List α} {i : Nat} (h : l.length ≤ i) : l.drop i = [] := List.drop_eq_nil_of_le h
def SB (h : AH) (s : Int) : Prop := hTy h s = 6 ∧ hCe h s 0 = s + 1 ∧ hTy h (s + 1) = 21 ∧ hLn h (s + 1) = 27
def rwAt (h : AH) (s : Int) (i : Nat) (r : RW) : Prop := hCe h s (3 * (i : Int)) = r.1 ∧ hCe h s (3 * (i : Int) + 1) = r.2.1 ∧ hCe h s (3 * (i : Int) + 2) = r.2.2
def SD (h : AH) (s : Int) (l : List RW) : Prop := SB h s ∧ hCe h s 1 = (l.length : Int) ∧ l.length ≤ 9 ∧ ∀ i, i < l.length → rwAt h (s + 1) i (gt l i)
theorem Blk.d {h : AH} {a : Int} (B : Blk h a) : SB h (a + 1) := ⟨B.2.1, B.2.2.2.2.2.2.2.2.2.1.trans (by omega), by rw [show a + 1 + 1 = a + 2 by omega]; exact B.2.2.1, by rw [show a + 1 + 1 = a + 2 by omega]; exact B.2.2.2.2.2.1⟩
theorem Blk.u {h : AH} {a : Int} (B : Blk h a) : SB h (a + 3) := ⟨B.2.2.2.1, B.2.2.2.2.2.2.2.2.2.2.trans (by omega), by rw [show a + 3 + 1 = a + 4 by omega]; exact B.2.2.2.2.1, by rw [show a + 3 + 1 = a + 4 by omega]; exact B.2.2.2.2.2.2.1⟩
theorem Blk.t {h : AH} {a : Int} (B : Blk h a) : hTy h a = 4 := B.1
theorem Blk.p0 {h : AH} {a : Int} (B : Blk h a) : hCe h a 0 = a + 1 := B.2.2.2.2.2.2.2.1
theorem Blk.p1 {h : AH} {a : Int} (B : Blk h a) : hCe h a 1 = a + 3 := B.2.2.2.2.2.2.2.2.1
def hdAt (h : AH) (a : Int) (q : Int × Int × Int × Int) : Prop := hCe h a 2 = q.1 ∧ hCe h a 3 = q.2.1 ∧ hCe h a 4 = q.2.2.1 ∧ hCe h a 5 = q.2.2.2
def LD (h : AH) (a : Int) (l : LN) : Prop := Blk h a ∧ hdAt h a l.1 ∧ SD h (a + 1) l.2.1 ∧ SD h (a + 3) l.2.2
/-- the cells of a side, of a line -/
def SK (s b j : Int) : Prop := (b = s ∧ 1 ≤ j) ∨ b = s + 1
def LK (a b j : Int) : Prop := (b = a ∧ 2 ≤ j) ∨ SK (a + 1) b j ∨ SK (a + 3) b j
theorem SB.of {h h' : AH} {s : Int} (S : SB h s) (q : Same h h') (c : hCe h' s 0 = hCe h s 0) : SB h' s := by
  unfold SB at *
  rw [q.ty, q.ty, q.ln, c]
  exact S
theorem SD.of {h h' : AH} {s : Int} {l : List RW} (S : SD h s l) (q : Same h h') (c : hCe h' s 0 = hCe h s 0) (c1 : hCe h' s 1 = hCe h s 1) (c2 : ∀ j, hCe h' (s + 1) j = hCe h (s + 1) j) : SD h' s l := by
  refine ⟨S.1.of q c, c1.trans S.2.1, S.2.2.1, fun i hi => ?_⟩
  have := S.2.2.2 i hi
  unfold rwAt at *
  rw [c2, c2, c2]
  exact this
theorem SD.fr {P : Int → Int → Prop} {h h' : AH} {s : Int} {l : List RW} (S : SD h s l) (F : Fr P h h') (q0 : ¬ P s 0) (q1 : ¬ P s 1) (q : ∀ j, ¬ P (s + 1) j) : SD h' s l := S.of F.1 (F.2 _ _ q0) (F.2 _ _ q1) fun j => F.2 _ _ (q j)
theorem Blk.fr {P : Int → Int → Prop} {h h' : AH} {a : Int} (B : Blk h a) (F : Fr P h h') (q0 : ¬ P a 0) (q1 : ¬ P a 1) (q2 : ¬ P (a + 1) 0) (q3 : ¬ P (a + 3) 0) : Blk h' a := by
  unfold Blk at *
  rw [F.1.ty, F.1.ty, F.1.ty, F.1.ty, F.1.ty, F.1.ln, F.1.ln, F.2 _ _ q0, F.2 _ _ q1, F.2 _ _ q2, F.2 _ _ q3]
  exact B
theorem LD.fr {P : Int → Int → Prop} {h h' : AH} {a : Int} {l : LN} (L : LD h a l) (F : Fr P h h') (q : ∀ b j, a ≤ b → b ≤ a + 4 → (b = a → j < 6) → ¬ P b j) : LD h' a l := by
  obtain ⟨B, H, D, U⟩ := L
  refine ⟨B.fr F (q _ _ (by omega) (by omega) (by omega)) (q _ _ (by omega) (by omega) (by omega)) (q _ _ (by omega) (by omega) (by omega)) (q _ _ (by omega) (by omega) (by omega)), ?_, D.fr F (q _ _ (by omega) (by omega) (by omega)) (q _ _ (by omega) (by omega) (by omega)) (fun j => q _ _ (by omega) (by omega) (by omega)), U.fr F (q _ _ (by omega) (by omega) (by omega)) (q _ _ (by omega) (by omega) (by omega)) (fun j => q _ _ (by omega) (by omega) (by omega))⟩
  unfold hdAt at *
  rw [F.2 _ _ (q _ _ (by omega) (by omega) (by omega)), F.2 _ _ (q _ _ (by omega) (by omega) (by omega)), F.2 _ _ (q _ _ (by omega) (by omega) (by omega)), F.2 _ _ (q _ _ (by omega) (by omega) (by omega))]
  exact H
/-! ### a side -/
theorem s_cell {h : AH} {s : Int} {l : List RW} (S : SD h s l) {i : Nat} (hi : i < l.length) {c : Int} (hc : 0 ≤ c ∧ c < 3) : Side_cell s i c h = some (hCe h (s + 1) (3 * (i : Int) + c)) := by
  have h9 := S.2.2.1
  unfold Side_cell
  refine ifF (by omega) ?_
  refine gB S.1.1 ?_
  rw [S.2.1]
  refine ifT (by omega) ?_
  refine ifF (by omega) ?_
  refine ifT (by omega) ?_
  refine gB S.1.1 ?_
  rw [S.1.2.1, w32_e (z := (i : Int) * 3) (by omega), w32_e (by omega)]
  refine gB ⟨S.1.2.2.1, by omega, by rw [S.1.2.2.2]; omega⟩ ?_
  rw [show (i : Int) * 3 + c = 3 * (i : Int) + c by omega]
theorem s_cell0 {h : AH} {s : Int} {l : List RW} (S : SD h s l) {i : Nat} (hi : i < l.length) : Side_cell s i 0 h = some (gt l i).1 := by
  rw [s_cell S hi (by omega), Int.add_zero, (S.2.2.2 i hi).1]
theorem s_cell1 {h : AH} {s : Int} {l : List RW} (S : SD h s l) {i : Nat} (hi : i < l.length) : Side_cell s i 1 h = some (gt l i).2.1 := by
  rw [s_cell S hi (by omega), (S.2.2.2 i hi).2.1]
theorem s_cell2 {h : AH} {s : Int} {l : List RW} (S : SD h s l) {i : Nat} (hi : i < l.length) : Side_cell s i 2 h = some (gt l i).2.2 := by
  rw [s_cell S hi (by omega), (S.2.2.2 i hi).2.2]
/-- a place of a row -/
def rwSet (r : RW) (c : Nat) (v : Int) : RW := match c with
  | 0 => (v, r.2.1, r.2.2)
  | 1 => (r.1, v, r.2.2)
  | _ => (r.1, r.2.1, v)
theorem gt_set {l : List RW} {i j : Nat} {r : RW} (hi : i < l.length) : gt (l.set i r) j = if j = i then r else gt l j := by
  unfold gt
  rw [List.getD_eq_getElem?_getD, List.getD_eq_getElem?_getD, List.getElem?_set]
  by_cases q : i = j
  · subst q; rw [if_pos rfl, if_pos hi, if_pos rfl]; rfl
  · rw [if_neg q, if_neg (fun z => q z.symm)]
theorem s_put {h : AH} {s : Int} {l : List RW} (S : SD h s l) {i : Nat} (hi : i < l.length) {c : Nat} (hc : c < 3) {v : Int} : ∃ h', Side_put s i c v h = some h' ∧ Fr (fun b j => b = s + 1 ∧ j = 3 * (i : Int) + c) h h' ∧ SD h' s (l.set i (rwSet (gt l i) c v)) := by
  have h9 := S.2.2.1
  refine ⟨hSet h (s + 1) (3 * (i : Int) + c) v, ?_, Fr.set ⟨rfl, rfl⟩, ?_⟩
  · unfold Side_put
    refine ifF (by omega) ?_
    refine gB S.1.1 ?_
    rw [S.2.1]
    refine ifT (by omega) ?_
    refine ifF (by omega) ?_
    refine ifT (by omega) ?_
    refine gB S.1.1 ?_
    rw [S.1.2.1, w32_e (z := (i : Int) * 3) (by omega), w32_e (by omega)]
    refine gB ⟨S.1.2.2.1, by omega, by rw [S.1.2.2.2]; omega⟩ ?_
    rw [show (i : Int) * 3 + (c : Int) = 3 * (i : Int) + c by omega]
  · refine ⟨S.1.of Same.set (cN (by omega)), ?_, by rw [List.length_set]; exact h9, ?_⟩
    · rw [List.length_set, cN (by omega)]; exact S.2.1
    · intro k hk
      rw [List.length_set] at hk
      have := S.2.2.2 k hk
      rw [gt_set hi]
      unfold rwAt at *
      by_cases q : k = i
      · subst q
        rw [if_pos rfl]
        match c, hc with
        | 0, _ => exact ⟨by rw [show (3 * (k : Int) + ((0 : Nat) : Int)) = 3 * (k : Int) by omega]; exact cS _ _ _ _, by rw [cN (by omega)]; exact this.2.1, by rw [cN (by omega)]; exact this.2.2⟩
        | 1, _ => exact ⟨by rw [cN (by omega)]; exact this.1, cS _ _ _ _, by rw [cN (by omega)]; exact this.2.2⟩
        | 2, _ => exact ⟨by rw [cN (by omega)]; exact this.1, by rw [cN (by omega)]; exact this.2.1, cS _ _ _ _⟩
      · rw [if_neg q, cN (by omega), cN (by omega), cN (by omega)]
        exact this
theorem gt_app {l : List RW} {r : RW} {j : Nat} (hj : j < (l ++ [r]).length) : gt (l ++ [r]) j = if j = l.length then r else gt l j := by
  unfold gt
  rw [List.getD_eq_getElem?_getD, List.getD_eq_getElem?_getD]
  rw [List.length_append] at hj
  by_cases q : j = l.length
  · subst q; rw [if_pos rfl, List.getElem?_append_right (Nat.le_refl _), Nat.sub_self]; rfl
  · rw [if_neg q, List.getElem?_append_left (by simp at hj; omega)]
/-- the cells behind the rows are free -/
theorem SD.grow {h : AH} {s : Int} {l : List RW} (S : SD h s l) (h9 : l.length < 9) : SD (hSet h s 1 ((l.length : Int) + 1)) s (l ++ [(hCe h (s + 1) (3 * (l.length : Int)), hCe h (s + 1) (3 * (l.length : Int) + 1), hCe h (s + 1) (3 * (l.length : Int) + 2))]) := by
  refine ⟨S.1.of Same.set (cN (by omega)), by rw [cS, List.length_append]; rfl, by rw [List.length_append]; exact h9, fun k hk => ?_⟩
  rw [gt_app hk]
  unfold rwAt
  rw [cN (by omega), cN (by omega), cN (by omega)]
  by_cases q : k = l.length
  · subst q; rw [if_pos rfl]; exact ⟨rfl, rfl, rfl⟩
  · rw [if_neg q]
    rw [List.length_append] at hk
    exact S.2.2.2 k (by simp at hk; omega)
theorem set_app {l : List RW} {r r' : RW} : (l ++ [r]).set l.length r' = l ++ [r'] := by
  rw [List.set_append_right _ _ (Nat.le_refl _), Nat.sub_self]; rfl
theorem gt_last {l : List RW} {r : RW} : gt (l ++ [r]) l.length = r := by rw [gt_app (by rw [List.length_append]; exact Nat.lt_succ_self _), if_pos rfl]
theorem s_append {h : AH} {s : Int} {l : List RW} (S : SD h s l) (h9 : l.length < 9) {q e b : Int} : ∃ h', Side_append s q e b h = some h' ∧ Fr (SK s) h h' ∧ SD h' s (l ++ [(q, e, b)]) := by
  have G := S.grow h9
  have h10 : ∀ r : RW, l.length < (l ++ [r]).length := fun r => by rw [List.length_append]; exact Nat.lt_succ_self _
  obtain ⟨h1, e1, f1, G1⟩ := s_put G (h10 _) (c := 0) (by omega) (v := q)
  rw [set_app, gt_last] at G1
  obtain ⟨h2, e2, f2, G2⟩ := s_put G1 (h10 _) (c := 1) (by omega) (v := e)
  rw [set_app, gt_last] at G2
  obtain ⟨h3, e3, f3, G3⟩ := s_put G2 (h10 _) (c := 2) (by omega) (v := b)
  rw [set_app, gt_last] at G3
  have w : ∀ k : Int, k = ((l ++ [((0, 0, 0) : RW)]).length : Int) → w32 (k - 1) = (l.length : Int) := fun k hk => by
    rw [List.length_append] at hk
    simp only [List.length_cons, List.length_nil] at hk
    rw [w32_e (by omega)]; omega
  have lw : ∀ r : RW, (((l ++ [r]).length : Nat) : Int) = ((l ++ [((0, 0, 0) : RW)]).length : Int) := fun r => by rw [List.length_append, List.length_append]; rfl
  refine ⟨h3, ?_, ((Fr.set (Or.inl ⟨rfl, by omega⟩)).tr ((f1.mo fun b j z => Or.inr z.1).tr ((f2.mo fun b j z => Or.inr z.1).tr (f3.mo fun b j z => Or.inr z.1)))), G3⟩
  unfold Side_append
  refine gB S.1.1 ?_
  rw [S.2.1]
  refine ifT (by omega) ?_
  refine gB S.1.1 ?_
  rw [w32_e (by omega)]
  refine gB S.1.1 ?_
  refine gB G.1.1 ?_
  refine gB G.1.1 ?_
  rw [w _ (G.2.1.trans (lw _))]
  refine cB e1 ?_
  refine gB G1.1.1 ?_
  refine gB G1.1.1 ?_
  rw [w _ (G1.2.1.trans (lw _))]
  refine cB e2 ?_
  refine gB G2.1.1 ?_
  refine gB G2.1.1 ?_
  rw [w _ (G2.2.1.trans (lw _))]
  refine cB e3 ?_
  rfl
/-! ### products -/
def prF : List RW → Int
  | [] => 1
  | r :: l => r.1 ^ r.2.1.toNat * prF l
def okR (r : RW) : Prop := 2 ≤ r.1 ∧ r.1 ≤ 1000000000 ∧ 1 ≤ r.2.1 ∧ r.2.1 ≤ 30
theorem okR.pw {r : RW} (h : okR r) (k : Nat) : 1 ≤ r.1 ^ k := by
  have h1 : 0 < r.1 := by have := h.1; omega
  have : 0 < r.1 ^ k := Int.pow_pos h1
  omega
theorem prF_pos : ∀ {l : List RW}, (∀ r ∈ l, okR r) → 1 ≤ prF l
  | [], _ => by unfold prF; omega
  | r :: l, h => by
    unfold prF
    have h1 := (h r List.mem_cons_self).pw r.2.1.toNat
    have h2 := prF_pos (l := l) fun x hx => h x (List.mem_cons_of_mem _ hx)
    have := Int.mul_le_mul h1 h2 (by omega) (by omega)
    omega
/-- what stands for all that is no less -/
def cap (c x : Int) : Int := if x < c then x else c
theorem cap_lt {c x : Int} (h : x < c) : cap c x = x := if_pos h
theorem cap_ge {c x : Int} (h : c ≤ x) : cap c x = c := if_neg (by omega)
theorem gt_mem {l : List RW} {i : Nat} (h : i < l.length) : gt l i ∈ l := by
  unfold gt
  rw [List.getD_eq_getElem?_getD, List.getElem?_eq_getElem h]
  exact List.getElem_mem h
theorem sp_in {h : AH} {s : Int} {l : List RW} (S : SD h s l) (hl : ∀ r ∈ l, okR r) {k4 : Int → Int → Int → AH → Option Int} {i : Nat} (hi : i < l.length) {T : Int}
    (hk : ∀ p : Int, 1 ≤ p → p < 2000000000 → p * prF (l.drop (i + 1)) = T → k4 s p (w32 ((i : Int) + 1)) h = some (cap 2000000000 T)) : ∀ (n f : Nat) (e : Int) (p : Int), 0 ≤ e → e + n = (gt l i).2.1 → n < f → 1 ≤ p → p < 2000000000 → p * ((gt l i).1 ^ n * prF (l.drop (i + 1))) = T → Side_product_15 k4 f s p i e h = some (cap 2000000000 T) := by
  have ok := hl _ (gt_mem hi)
  have ok2 := ok.2.2.2
  have hr : 1 ≤ prF (l.drop (i + 1)) := prF_pos fun r hr => hl r (List.mem_of_mem_drop hr)
  intro n
  induction n with
  | zero =>
    intro f e p h0 he hf p1 p2 hT
    obtain ⟨f, rfl, -⟩ := fu_pos hf
    unfold Side_product_15
    refine gB S.1.1 ?_
    refine cB (s_cell1 S hi) ?_
    refine ifF (by omega) ?_
    rw [Int.pow_zero, Int.one_mul] at hT
    exact hk p p1 p2 hT
  | succ n ih =>
    intro f e p h0 he hf p1 p2 hT
    obtain ⟨f, rfl, hf⟩ := fu_pos hf
    unfold Side_product_15
    refine gB S.1.1 ?_
    refine cB (s_cell1 S hi) ?_
    refine ifT (by omega) ?_
    refine gB S.1.1 ?_
    refine cB (s_cell0 S hi) ?_
    have hb : 1 ≤ p * (gt l i).1 := by
      have := Int.mul_le_mul p1 (show 1 ≤ (gt l i).1 by have := ok.1; omega) (by omega) (by omega)
      omega
    have hb2 : p * (gt l i).1 ≤ 2000000000 * 1000000000 := Int.mul_le_mul (by omega) ok.2.1 (by have := ok.1; omega) (by omega)
    rw [w64_e (by omega)]
    have hT2 : p * (gt l i).1 * ((gt l i).1 ^ n * prF (l.drop (i + 1))) = T := by
      rw [← hT, Int.pow_succ]
      simp only [Int.mul_assoc, Int.mul_comm, Int.mul_left_comm]
    by_cases q : p * (gt l i).1 < 2000000000
    · refine ifT q ?_
      rw [w32_e (by omega)]
      exact ih f (e + 1) _ (by omega) (by omega) (by omega) hb q hT2
    · refine ifF q ?_
      have h3 : p * (gt l i).1 * 1 ≤ T := by
        rw [← hT2]
        refine Int.mul_le_mul_of_nonneg_left ?_ (by omega)
        have := Int.mul_le_mul (ok.pw n) hr (by omega) (by have := ok.pw n; omega)
        omega
      rw [cap_ge (by omega)]
theorem sp_out {h : AH} {s : Int} {l : List RW} (S : SD h s l) (hl : ∀ r ∈ l, okR r) : ∀ (n f i : Nat) (p : Int), i + n = l.length → n < f → f ≤ FU → 1 ≤ p → p < 2000000000 → Side_product_4 f s p i h = some (cap 2000000000 (p * prF (l.drop i))) := by
  have h9 := S.2.2.1
  intro n
  induction n with
  | zero =>
    intro f i p hi hf hF p1 p2
    obtain ⟨f, rfl, -⟩ := fu_pos hf
    unfold Side_product_4
    refine gB S.1.1 ?_
    rw [S.2.1]
    refine ifF (by omega) ?_
    rw [dr_e (by omega)]
    unfold prF
    rw [Int.mul_one, cap_lt p2]
  | succ n ih =>
    intro f i p hi hf hF p1 p2
    obtain ⟨f, rfl, hf⟩ := fu_pos hf
    unfold Side_product_4
    refine gB S.1.1 ?_
    rw [S.2.1]
    refine ifT (by omega) ?_
    rw [gt_dr (show i < l.length by omega)]
    have ok := hl _ (gt_mem (show i < l.length by omega))
    have o1 := ok.2.2.1
    have o2 := ok.2.2.2
    refine sp_in S hl (i := i) (by omega) (fun p' a b c => ?_) (gt l i).2.1.toNat FU 0 p (by omega) (by omega) (fu_big (by omega)) p1 p2 rfl
    rw [w32_e (by omega)]
    have := ih f (i + 1) p' (by omega) (by omega) (by omega) a b
    rw [c] at this
    exact this
theorem s_product {h : AH} {s : Int} {l : List RW} (S : SD h s l) (hl : ∀ r ∈ l, okR r) : Side_product s h = some (cap 2000000000 (prF l)) := by
  have h9 := S.2.2.1
  unfold Side_product
  have := sp_out S hl l.length FU 0 1 (by omega) (fu_big (by omega)) (Nat.le_refl _) (by omega) (by omega)
  rw [List.drop_zero, Int.one_mul] at this
  exact this
