/-! the reference: lines -/
def RM (h : AH) (qa ea fr : Int) (l : List RW) : Prop := ∀ i : Nat, i < l.length → hCe h qa (fr + i) = (gt l i).1 ∧ hCe h ea (fr + i) = (gt l i).2.1
def hdM (h : AH) (k : Int) (q : Int × Int × Int × Int) : Prop := hCe h 33 k = q.1 ∧ hCe h 34 k = q.2.1 ∧ hCe h 35 k = q.2.2.1 ∧ hCe h 36 k = q.2.2.2
def LM (h : AH) (k : Nat) (l : LN) : Prop := hdM h k l.1 ∧ (hCe h 37 k = (l.2.1.length : Int) ∧ l.2.1.length ≤ 9 ∧ RM h 39 40 (9 * (k : Int)) l.2.1 ∧ ∀ i : Nat, i < l.2.1.length → hCe h 41 (9 * (k : Int) + i) = (gt l.2.1 i).2.2) ∧ (hCe h 38 k = (l.2.2.length : Int) ∧ l.2.2.length ≤ 9 ∧ RM h 42 43 (9 * (k : Int)) l.2.2)
/-- the cells of a line of the reference -/
def MK (k : Nat) (b j : Int) : Prop := (33 ≤ b ∧ b ≤ 38 ∧ j = (k : Int)) ∨ (39 ≤ b ∧ b ≤ 43 ∧ 9 * (k : Int) ≤ j ∧ j < 9 * (k : Int) + 9)
theorem MK.mut {k : Nat} {b j : Int} (h : MK k b j) : Mut b j := mutM (by unfold MK at h; unfold MutM; omega)
theorem LM.of {h h' : AH} {k : Nat} {l : LN} (L : LM h k l) (c : ∀ b j, MK k b j → hCe h' b j = hCe h b j) : LM h' k l := by
  obtain ⟨a, ⟨d1, d2, d3, d4⟩, u1, u2, u3⟩ := L
  refine ⟨?_, ⟨(c _ _ (by unfold MK; omega)).trans d1, d2, fun i hi => ?_, fun i hi => (c _ _ (by unfold MK; omega)).trans (d4 i hi)⟩, (c _ _ (by unfold MK; omega)).trans u1, u2, fun i hi => ?_⟩
  · unfold hdM at *
    rw [c _ _ (by unfold MK; omega), c _ _ (by unfold MK; omega), c _ _ (by unfold MK; omega), c _ _ (by unfold MK; omega)]
    exact a
  · rw [c _ _ (by unfold MK; omega), c _ _ (by unfold MK; omega)]; exact d3 i hi
  · rw [c _ _ (by unfold MK; omega), c _ _ (by unfold MK; omega)]; exact u3 i hi
theorem LM.fr {P : Int → Int → Prop} {h h' : AH} {k : Nat} {l : LN} (L : LM h k l) (F : Fr P h h') (q : ∀ b j, MK k b j → ¬ P b j) : LM h' k l := L.of fun b j z => F.2 _ _ (q b j z)
theorem s_begins {h : AH} (H : Sh h) {k : Nat} (hk : k ≤ 115) {n s : Int} : ∃ h', R_begins 27 k n s h = some h' ∧ Fr (MK k) h h' ∧ LM h' k ((n, s, 0, 0), [], []) := by
  refine ⟨hSet (hSet (hSet (hSet (hSet (hSet h 33 k n) 34 k s) 35 k 0) 36 k 0) 37 k 0) 38 k 0, ?_, ?_, ?_⟩
  · unfold R_begins
    simp (disch := omega) only [gdT, gdS, true_and, and_true, tS, lS, cN, H.t27, H.p27_8, H.p27_9, H.p27_10, H.p27_11, H.p27_12, H.p27_13, H.t33, H.l33, H.t34, H.l34, H.t35, H.l35, H.t36, H.l36, H.t37, H.l37, H.t38, H.l38]
  · refine Fr.setT (Fr.setT (Fr.setT (Fr.setT (Fr.setT (Fr.set ?_) ?_) ?_) ?_) ?_) ?_ <;> (unfold MK; omega)
  · refine ⟨⟨?_, ?_, ?_, ?_⟩, ⟨?_, Nat.zero_le _, fun i hi => absurd hi (Nat.not_lt_zero i), fun i hi => absurd hi (Nat.not_lt_zero i)⟩, ?_, Nat.zero_le _, fun i hi => absurd hi (Nat.not_lt_zero i)⟩ <;> simp (disch := omega) only [cN, cS] <;> rfl
theorem s_addsDown {h : AH} (H : Sh h) {k : Nat} (hk : k ≤ 115) {l : LN} (L : LM h k l) (h9 : l.2.1.length < 9) {q e a : Int} : ∃ h', R_addsDown 27 k q e a h = some h' ∧ Fr (MK k) h h' ∧ LM h' k (l.1, l.2.1 ++ [(q, e, a)], l.2.2) := by
  obtain ⟨a1, ⟨d1, d2, d3, d4⟩, u1, u2, u3⟩ := L
  let p : Int := 9 * (k : Int) + (l.2.1.length : Int)
  have hp : w32 (w32 (9 * (k : Int)) + (l.2.1.length : Int)) = p := by rw [w32_e (z := 9 * (k : Int)) (by omega), w32_e (by omega)]
  have hpb : 0 ≤ p ∧ p < 1044 := by omega
  refine ⟨hSet (hSet (hSet (hSet h 39 p q) 40 p e) 41 p a) 37 k ((l.2.1.length : Int) + 1), ?_, ?_, ?_⟩
  · unfold R_addsDown
    simp (disch := omega) only [gdT, gdS, true_and, and_true, tS, lS, cN, H.t27, H.p27_12, H.p27_14, H.p27_15, H.p27_16, H.t37, H.l37, H.t39, H.l39, H.t40, H.l40, H.t41, H.l41, d1, hp, w32_e (z := (l.2.1.length : Int) + 1)]
  · refine Fr.setT (Fr.setT (Fr.setT (Fr.set ?_) ?_) ?_) ?_ <;> (unfold MK; omega)
  · have old : ∀ b j : Int, (39 ≤ b ∧ b ≤ 43 ∧ j ≠ p) ∨ b = 42 ∨ b = 43 → hCe (hSet (hSet (hSet (hSet h 39 p q) 40 p e) 41 p a) 37 k ((l.2.1.length : Int) + 1)) b j = hCe h b j := fun b j z => by
      rw [cN (by omega), cN (by omega), cN (by omega), cN (by omega)]
    refine ⟨?_, ⟨?_, by simp; omega, fun i hi => ?_, fun i hi => ?_⟩, ?_, u2, fun i hi => ?_⟩
    · unfold hdM at *
      simp (disch := omega) only [cN]
      exact a1
    · rw [cS, List.length_append]; rfl
    · show _ = (gt (l.2.1 ++ [(q, e, a)]) i).1 ∧ _ = (gt (l.2.1 ++ [(q, e, a)]) i).2.1
      have hi2 : i < (l.2.1 ++ [(q, e, a)]).length := hi
      rw [gt_app hi2]
      rw [List.length_append] at hi2
      simp only [List.length_cons, List.length_nil] at hi2
      by_cases z : i = l.2.1.length
      · subst z
        rw [if_pos rfl]
        refine ⟨?_, ?_⟩
        · rw [cN (by omega), cN (by omega), cN (by omega)]; exact cS _ _ _ _
        · rw [cN (by omega), cN (by omega)]; exact cS _ _ _ _
      · rw [if_neg z, old _ _ (by omega), old _ _ (by omega)]
        exact d3 i (by omega)
    · show _ = (gt (l.2.1 ++ [(q, e, a)]) i).2.2
      have hi2 : i < (l.2.1 ++ [(q, e, a)]).length := hi
      rw [gt_app hi2]
      rw [List.length_append] at hi2
      simp only [List.length_cons, List.length_nil] at hi2
      by_cases z : i = l.2.1.length
      · subst z
        rw [if_pos rfl, cN (by omega)]
        exact cS _ _ _ _
      · rw [if_neg z, old _ _ (by omega)]
        exact d4 i (by omega)
    · rw [cN (by omega), cN (by omega), cN (by omega), cN (by omega)]; exact u1
    · rw [old _ _ (by omega), old _ _ (by omega)]; exact u3 i hi
theorem s_addsUp {h : AH} (H : Sh h) {k : Nat} (hk : k ≤ 115) {l : LN} (L : LM h k l) (h9 : l.2.2.length < 9) {q e a : Int} : ∃ h', R_addsUp 27 k q e h = some h' ∧ Fr (MK k) h h' ∧ LM h' k (l.1, l.2.1, l.2.2 ++ [(q, e, a)]) := by
  obtain ⟨a1, ⟨d1, d2, d3, d4⟩, u1, u2, u3⟩ := L
  let p : Int := 9 * (k : Int) + (l.2.2.length : Int)
  have hp : w32 (w32 (9 * (k : Int)) + (l.2.2.length : Int)) = p := by rw [w32_e (z := 9 * (k : Int)) (by omega), w32_e (by omega)]
  have hpb : 0 ≤ p ∧ p < 1044 := by omega
  refine ⟨hSet (hSet (hSet h 42 p q) 43 p e) 38 k ((l.2.2.length : Int) + 1), ?_, ?_, ?_⟩
  · unfold R_addsUp
    simp (disch := omega) only [gdT, gdS, true_and, and_true, tS, lS, cN, H.t27, H.p27_13, H.p27_17, H.p27_18, H.t38, H.l38, H.t42, H.l42, H.t43, H.l43, u1, hp, w32_e (z := (l.2.2.length : Int) + 1)]
  · refine Fr.setT (Fr.setT (Fr.set ?_) ?_) ?_ <;> (unfold MK; omega)
  · have old : ∀ b j : Int, (39 ≤ b ∧ b ≤ 43 ∧ j ≠ p) ∨ b = 39 ∨ b = 40 ∨ b = 41 → hCe (hSet (hSet (hSet h 42 p q) 43 p e) 38 k ((l.2.2.length : Int) + 1)) b j = hCe h b j := fun b j z => by
      rw [cN (by omega), cN (by omega), cN (by omega)]
    refine ⟨?_, ⟨?_, d2, fun i hi => ?_, fun i hi => ?_⟩, ?_, by simp; omega, fun i hi => ?_⟩
    · unfold hdM at *
      simp (disch := omega) only [cN]
      exact a1
    · rw [cN (by omega), cN (by omega), cN (by omega)]; exact d1
    · rw [old _ _ (by omega), old _ _ (by omega)]; exact d3 i hi
    · rw [old _ _ (by omega)]; exact d4 i hi
    · rw [cS, List.length_append]; rfl
    · show _ = (gt (l.2.2 ++ [(q, e, a)]) i).1 ∧ _ = (gt (l.2.2 ++ [(q, e, a)]) i).2.1
      have hi2 : i < (l.2.2 ++ [(q, e, a)]).length := hi
      rw [gt_app hi2]
      rw [List.length_append] at hi2
      simp only [List.length_cons, List.length_nil] at hi2
      by_cases z : i = l.2.2.length
      · subst z
        rw [if_pos rfl]
        refine ⟨?_, ?_⟩
        · rw [cN (by omega), cN (by omega)]; exact cS _ _ _ _
        · rw [cN (by omega)]; exact cS _ _ _ _
      · rw [if_neg z, old _ _ (by omega), old _ _ (by omega)]
        exact u3 i (by omega)
theorem tk_s {l : List RW} {j : Nat} (h : j < l.length) : l.take j ++ [gt l j] = l.take (j + 1) := by
  rw [List.take_succ]
  unfold gt
  rw [List.getD_eq_getElem?_getD, List.getElem?_eq_getElem h]
  rfl
theorem rw_eta (r : RW) : (r.1, r.2.1, r.2.2) = r := rfl
theorem bc_up {h0 : AH} {k k2 : Nat} (hk : k ≤ 115) (hk2 : k2 ≤ 115) (ne : k ≠ k2) {l : LN} (L0 : LM h0 k2 l) : ∀ (n f j : Nat) (h : AH), j + n = l.2.2.length → n < f → Sh h → Fr (MK k) h0 h → LM h k (l.1, l.2.1, l.2.2.take j) → ∃ h', R_becomes_99 f 27 k k2 j h = some h' ∧ Fr (MK k) h0 h' ∧ LM h' k l := by
  have u2 := L0.2.2.2.1
  intro n
  induction n with
  | zero =>
    intro f j h hj hf H F L
    obtain ⟨f, rfl, -⟩ := fu_pos hf
    have S := L0.fr F fun b i y z => by unfold MK at y z; omega
    refine ⟨h, ?_, F, ?_⟩
    · unfold R_becomes_99
      refine gB H.t27 ?_
      rw [H.p27_13]
      refine gB ⟨H.t38, by omega, by rw [H.l38]; omega⟩ ?_
      rw [S.2.2.1]
      exact ifF (by omega) rfl
    · rw [List.take_of_length_le (by omega)] at L
      exact L
  | succ n ih =>
    intro f j h hj hf H F L
    obtain ⟨f, rfl, hf⟩ := fu_pos hf
    have S := L0.fr F fun b i y z => by unfold MK at y z; omega
    have r := S.2.2.2.2 j (by omega)
    obtain ⟨h1, e1, F1, L1⟩ := s_addsUp H hk L (by show (l.2.2.take j).length < 9; rw [List.length_take]; omega) (q := (gt l.2.2 j).1) (e := (gt l.2.2 j).2.1) (a := (gt l.2.2 j).2.2)
    have L1' : LM h1 k (l.1, l.2.1, l.2.2.take j ++ [((gt l.2.2 j).1, (gt l.2.2 j).2.1, (gt l.2.2 j).2.2)]) := L1
    rw [rw_eta, tk_s (by omega)] at L1'
    obtain ⟨h2, e2, F2, L2⟩ := ih f (j + 1) h1 (by omega) (by omega) (H.fr F1 fun b i => MK.mut) (F.tr F1) L1'
    refine ⟨h2, ?_, F2, L2⟩
    unfold R_becomes_99
    refine gB H.t27 ?_
    rw [H.p27_13]
    refine gB ⟨H.t38, by omega, by rw [H.l38]; omega⟩ ?_
    rw [S.2.2.1]
    refine ifT (by omega) ?_
    refine gB H.t27 ?_
    rw [H.p27_17, w32_e (z := 9 * (k2 : Int)) (by omega), w32_e (z := 9 * (k2 : Int) + j) (by omega)]
    refine gB ⟨H.t42, by omega, by rw [H.l42]; omega⟩ ?_
    refine gB H.t27 ?_
    rw [H.p27_18]
    refine gB ⟨H.t43, by omega, by rw [H.l43]; omega⟩ ?_
    refine gB H.t27 ?_
    rw [r.1, r.2]
    refine cB e1 ?_
    rw [w32_e (by omega)]
    exact e2
theorem bc_dn {h0 : AH} {k k2 : Nat} (hk : k ≤ 115) (hk2 : k2 ≤ 115) (ne : k ≠ k2) {l : LN} (L0 : LM h0 k2 l) : ∀ (n f j : Nat) (h : AH), j + n = l.2.1.length → n < f → Sh h → Fr (MK k) h0 h → LM h k (l.1, l.2.1.take j, []) → ∃ h', R_becomes_43 f 27 k k2 j h = some h' ∧ Fr (MK k) h0 h' ∧ LM h' k l := by
  have d2 := L0.2.1.2.1
  have u2 := L0.2.2.2.1
  intro n
  induction n with
  | zero =>
    intro f j h hj hf H F L
    obtain ⟨f, rfl, -⟩ := fu_pos hf
    have S := L0.fr F fun b i y z => by unfold MK at y z; omega
    rw [List.take_of_length_le (by omega)] at L
    obtain ⟨h', e', F', L'⟩ := bc_up hk hk2 ne L0 l.2.2.length FU 0 h (by omega) (fu_big (by omega)) H F L
    refine ⟨h', ?_, F', L'⟩
    unfold R_becomes_43
    refine gB H.t27 ?_
    rw [H.p27_12]
    refine gB ⟨H.t37, by omega, by rw [H.l37]; omega⟩ ?_
    rw [S.2.1.1]
    exact ifF (by omega) e'
  | succ n ih =>
    intro f j h hj hf H F L
    obtain ⟨f, rfl, hf⟩ := fu_pos hf
    have S := L0.fr F fun b i y z => by unfold MK at y z; omega
    have r := S.2.1.2.2.1 j (by omega)
    have r2 := S.2.1.2.2.2 j (by omega)
    obtain ⟨h1, e1, F1, L1⟩ := s_addsDown H hk L (by show (l.2.1.take j).length < 9; rw [List.length_take]; omega) (q := (gt l.2.1 j).1) (e := (gt l.2.1 j).2.1) (a := (gt l.2.1 j).2.2)
    have L1' : LM h1 k (l.1, l.2.1.take j ++ [((gt l.2.1 j).1, (gt l.2.1 j).2.1, (gt l.2.1 j).2.2)], []) := L1
    rw [rw_eta, tk_s (by omega)] at L1'
    obtain ⟨h2, e2, F2, L2⟩ := ih f (j + 1) h1 (by omega) (by omega) (H.fr F1 fun b i => MK.mut) (F.tr F1) L1'
    refine ⟨h2, ?_, F2, L2⟩
    unfold R_becomes_43
    refine gB H.t27 ?_
    rw [H.p27_12]
    refine gB ⟨H.t37, by omega, by rw [H.l37]; omega⟩ ?_
    rw [S.2.1.1]
    refine ifT (by omega) ?_
    refine gB H.t27 ?_
    rw [H.p27_14, w32_e (z := 9 * (k2 : Int)) (by omega), w32_e (z := 9 * (k2 : Int) + j) (by omega)]
    refine gB ⟨H.t39, by omega, by rw [H.l39]; omega⟩ ?_
    refine gB H.t27 ?_
    rw [H.p27_15]
    refine gB ⟨H.t40, by omega, by rw [H.l40]; omega⟩ ?_
    refine gB H.t27 ?_
    rw [H.p27_16]
    refine gB ⟨H.t41, by omega, by rw [H.l41]; omega⟩ ?_
    refine gB H.t27 ?_
    rw [r.1, r.2, r2]
    refine cB e1 ?_
    rw [w32_e (by omega)]
    exact e2
theorem s_becomes {h : AH} (H : Sh h) {k k2 : Nat} (hk : k ≤ 115) (hk2 : k2 ≤ 115) (ne : k ≠ k2) {l : LN} (L0 : LM h k2 l) : ∃ h', R_becomes 27 k k2 h = some h' ∧ Fr (MK k) h h' ∧ LM h' k l := by
  have d2 := L0.2.1.2.1
  obtain ⟨h1, e1, F1, L1⟩ := s_begins H hk (n := l.1.1) (s := l.1.2.1)
  have H1 := H.fr F1 fun b i => MK.mut
  have S1 := L0.fr F1 fun b i y z => by unfold MK at y z; omega
  let h2 := hSet (hSet h1 35 k l.1.2.2.1) 36 k l.1.2.2.2
  have F2 : Fr (MK k) h h2 := (F1.setT (by unfold MK; omega)).setT (by unfold MK; omega)
  have H2 := H.fr F2 fun b i => MK.mut
  have L2 : LM h2 k (l.1, l.2.1.take 0, []) := by
    obtain ⟨⟨a1, a2, a3, a4⟩, ⟨d1, -⟩, u1, -⟩ := L1
    refine ⟨⟨?_, ?_, ?_, cS _ _ _ _⟩, ⟨?_, Nat.zero_le _, fun i hi => absurd hi (Nat.not_lt_zero i), fun i hi => absurd hi (Nat.not_lt_zero i)⟩, ?_, Nat.zero_le _, fun i hi => absurd hi (Nat.not_lt_zero i)⟩
    · rw [cN (by omega), cN (by omega)]; exact a1
    · rw [cN (by omega), cN (by omega)]; exact a2
    · rw [cN (by omega)]; exact cS _ _ _ _
    · rw [cN (by omega), cN (by omega)]; exact d1
    · rw [cN (by omega), cN (by omega)]; exact u1
  obtain ⟨h3, e3, F3, L3⟩ := bc_dn hk hk2 ne L0 l.2.1.length FU 0 h2 (by omega) (fu_big (by omega)) H2 F2 L2
  refine ⟨h3, ?_, F3, L3⟩
  unfold R_becomes
  refine gB H.t27 ?_
  rw [H.p27_8]
  refine gB ⟨H.t33, by omega, by rw [H.l33]; omega⟩ ?_
  refine gB H.t27 ?_
  rw [H.p27_9]
  refine gB ⟨H.t34, by omega, by rw [H.l34]; omega⟩ ?_
  refine gB H.t27 ?_
  rw [L0.1.1, L0.1.2.1]
  refine cB e1 ?_
  refine gB H1.t27 ?_
  rw [H1.p27_10]
  refine gB H1.t27 ?_
  refine gB ⟨H1.t35, by omega, by rw [H1.l35]; omega⟩ ?_
  refine gB ⟨H1.t35, by omega, by rw [H1.l35]; omega⟩ ?_
  rw [S1.1.2.2.1]
  refine gB H1.t27 ?_
  rw [cN (b := 27) (by omega), H1.p27_11]
  refine gB H1.t27 ?_
  refine gB ⟨H1.t36, by omega, by show _ < hLn h1 36; rw [H1.l36]; omega⟩ ?_
  refine gB ⟨H1.t36, by omega, by show _ < hLn h1 36; rw [H1.l36]; omega⟩ ?_
  rw [cN (b := 36) (by omega), S1.1.2.2.2]
  exact e3
/-! ### products -/
theorem cap4_md {m f : Int} (hm : 1 ≤ m ∧ m < 2000000000) (hf : 1 ≤ f) : m % cap 4000000000 f = 0 ↔ m % f = 0 := by
  by_cases q : f < 4000000000
  · rw [cap_lt q]
  · rw [cap_ge (by omega), Int.emod_eq_of_lt (by omega) (by omega), Int.emod_eq_of_lt (by omega) (by omega)]
theorem cap4_eq {m f : Int} (hm : m < 2000000000) : cap 4000000000 f = m ↔ f = m := by
  by_cases q : f < 4000000000
  · rw [cap_lt q]
  · rw [cap_ge (by omega)]; omega
theorem cap_mul {p q r : Int} (hp : 1 ≤ p) (hq : 1 ≤ q) (hr : 1 ≤ r) : cap 4000000000 (p * q * r) = cap 4000000000 (cap 4000000000 (p * q) * r) := by
  have h1 := Int.mul_le_mul hp hq (by omega) (by omega)
  by_cases z : p * q < 4000000000
  · rw [cap_lt z]
  · rw [cap_ge (x := p * q) (by omega), cap_ge, cap_ge]
    · have := Int.mul_le_mul (show (4000000000 : Int) ≤ 4000000000 by omega) hr (by omega) (by omega); omega
    · have := Int.mul_le_mul (show (4000000000 : Int) ≤ p * q by omega) hr (by omega) (by omega); omega
theorem rp1_in {h : AH} {qa ea fr sz : Int} {l : List RW} (R : RM h qa ea fr l) (tq : hTy h qa = 21) (te : hTy h ea = 21) (lq : fr + l.length ≤ hLn h qa) (le : fr + l.length ≤ hLn h ea) (h0 : 0 ≤ fr) (hl : ∀ r ∈ l, okR r) {k6 : Int → Int → Int → Int → Int → Int → AH → Option Int} {i : Nat} (hi : i < l.length) {T : Int}
    (hk : ∀ p : Int, 1 ≤ p → p ≤ 4000000000 → cap 4000000000 (p * prF (l.drop (i + 1))) = T → k6 qa ea fr sz p (w32 (fr + i + 1)) h = some T) : ∀ (n f : Nat) (e p : Int), 0 ≤ e → e + n = (gt l i).2.1 → n < f → 1 ≤ p → p ≤ 4000000000 → cap 4000000000 (p * ((gt l i).1 ^ n * prF (l.drop (i + 1)))) = T → R_product_18 k6 f qa ea fr sz p (fr + i) e h = some T := by
  have ok := hl _ (gt_mem hi)
  have o1 := ok.1
  have o2 := ok.2.1
  have ok2 := ok.2.2.2
  have r := R i hi
  have hr : 1 ≤ prF (l.drop (i + 1)) := prF_pos fun r hr => hl r (List.mem_of_mem_drop hr)
  intro n
  induction n with
  | zero =>
    intro f e p he0 he hf p1 p2 hT
    obtain ⟨f, rfl, -⟩ := fu_pos hf
    unfold R_product_18
    refine gB ⟨te, by omega, by omega⟩ ?_
    rw [r.2]
    refine ifF (by omega) ?_
    rw [Int.pow_zero, Int.one_mul] at hT
    exact hk p p1 p2 hT
  | succ n ih =>
    intro f e p he0 he hf p1 p2 hT
    obtain ⟨f, rfl, hf⟩ := fu_pos hf
    have pw := ok.pw n
    have hT2 : cap 4000000000 (p * (gt l i).1 * ((gt l i).1 ^ n * prF (l.drop (i + 1)))) = T := by
      rw [← hT, Int.pow_succ]
      congr 1
      grind
    have rest1 : 1 ≤ (gt l i).1 ^ n * prF (l.drop (i + 1)) := by
      have := Int.mul_le_mul pw hr (by omega) (by omega)
      omega
    have hpq : 1 ≤ p * (gt l i).1 := by
      have := Int.mul_le_mul p1 (show 1 ≤ (gt l i).1 by omega) (by omega) (by omega)
      omega
    rw [cap_mul p1 (by omega) rest1] at hT2
    unfold R_product_18
    refine gB ⟨te, by omega, by omega⟩ ?_
    rw [r.2]
    refine ifT (by omega) ?_
    refine gB ⟨tq, by omega, by omega⟩ ?_
    have db := dv_bd (n := 4000000000) (q := (gt l i).1) (by omega) (by omega)
    rw [r.1, td_e (by omega), w64_e (z := 4000000000 / (gt l i).1) (by omega)]
    refine gB (by omega) ?_
    have key : 4000000000 / (gt l i).1 < p ↔ 4000000000 < p * (gt l i).1 := Int.ediv_lt_iff_lt_mul (by omega)
    by_cases z : 4000000000 / (gt l i).1 < p
    · refine ifT z ?_
      rw [w32_e (by omega)]
      rw [cap_ge (x := p * (gt l i).1) (by have := key.mp z; omega)] at hT2
      exact ih f (e + 1) _ (by omega) (by omega) (by omega) (by omega) (by omega) hT2
    · refine ifF z ?_
      refine gB ⟨tq, by omega, by omega⟩ ?_
      have b : p * (gt l i).1 ≤ 4000000000 := by
        rcases Int.lt_or_le 4000000000 (p * (gt l i).1) with y | y
        · exact absurd (key.mpr y) z
        · exact y
      rw [w64_e (by omega), w32_e (by omega)]
      have e4 : cap 4000000000 (p * (gt l i).1) = p * (gt l i).1 := by
        unfold cap
        split <;> omega
      rw [e4] at hT2
      exact ih f (e + 1) _ (by omega) (by omega) (by omega) hpq b hT2
theorem rp1_out {h : AH} {qa ea fr : Int} {l : List RW} (R : RM h qa ea fr l) (tq : hTy h qa = 21) (te : hTy h ea = 21) (lq : fr + l.length ≤ hLn h qa) (le : fr + l.length ≤ hLn h ea) (h0 : 0 ≤ fr ∧ fr ≤ 2000) (h9 : l.length ≤ 9) (hl : ∀ r ∈ l, okR r) : ∀ (n f i : Nat) (p T : Int), i + n = l.length → n < f → 1 ≤ p → p ≤ 4000000000 → cap 4000000000 (p * prF (l.drop i)) = T → R_product_6 f qa ea fr l.length p (fr + i) h = some T := by
  intro n
  induction n with
  | zero =>
    intro f i p T hi hf p1 p2 hT
    obtain ⟨f, rfl, -⟩ := fu_pos hf
    unfold R_product_6
    rw [w32_e (by omega)]
    refine ifF (by omega) ?_
    rw [dr_e (by omega)] at hT
    unfold prF at hT
    rw [Int.mul_one] at hT
    rw [← hT]
    congr 1
    unfold cap
    split <;> omega
  | succ n ih =>
    intro f i p T hi hf p1 p2 hT
    obtain ⟨f, rfl, hf⟩ := fu_pos hf
    unfold R_product_6
    rw [w32_e (by omega)]
    refine ifT (by omega) ?_
    rw [gt_dr (show i < l.length by omega)] at hT
    have ok := hl _ (gt_mem (show i < l.length by omega))
    have o1 := ok.2.2.1
    have o2 := ok.2.2.2
    refine rp1_in R tq te lq le h0.1 hl (i := i) (by omega) (fun p' a b c => ?_) (gt l i).2.1.toNat FU 0 p (by omega) (by omega) (fu_big (by omega)) p1 p2 hT
    rw [w32_e (by omega), show fr + (i : Int) + 1 = fr + ((i + 1 : Nat) : Int) by omega]
    exact ih f (i + 1) p' T (by omega) (by omega) a b c
theorem s_below {h : AH} (H : Sh h) {k : Nat} (hk : k ≤ 115) {l : LN} (L : LM h k l) (hl : ∀ r ∈ l.2.1, okR r) : R_below 27 k h = some (cap 4000000000 (prF l.2.1)) := by
  obtain ⟨a1, ⟨d1, d2, d3, d4⟩, u1, u2, u3⟩ := L
  unfold R_below
  refine gB H.t27 ?_
  refine gB H.t27 ?_
  refine gB H.t27 ?_
  rw [H.p27_12, H.p27_14, H.p27_15]
  refine gB ⟨H.t37, by omega, by rw [H.l37]; omega⟩ ?_
  refine gB H.t27 ?_
  rw [d1, w32_e (by omega)]
  refine cB ?_ rfl
  unfold R_product
  have := rp1_out d3 H.t39 H.t40 (by rw [H.l39]; omega) (by rw [H.l40]; omega) (by omega) d2 hl l.2.1.length FU 0 1 _ (by omega) (fu_big (by omega)) (by omega) (by omega) rfl
  rw [List.drop_zero, Int.one_mul, show ((0 : Nat) : Int) = 0 from rfl, Int.add_zero] at this
  exact this
theorem s_above {h : AH} (H : Sh h) {k : Nat} (hk : k ≤ 115) {l : LN} (L : LM h k l) (hl : ∀ r ∈ l.2.2, okR r) : R_above 27 k h = some (cap 4000000000 (prF l.2.2)) := by
  obtain ⟨a1, ⟨d1, d2, d3, d4⟩, u1, u2, u3⟩ := L
  unfold R_above
  refine gB H.t27 ?_
  refine gB H.t27 ?_
  refine gB H.t27 ?_
  rw [H.p27_13, H.p27_17, H.p27_18]
  refine gB ⟨H.t38, by omega, by rw [H.l38]; omega⟩ ?_
  refine gB H.t27 ?_
  rw [u1, w32_e (by omega)]
  refine cB ?_ rfl
  unfold R_product
  have := rp1_out u3 H.t42 H.t43 (by rw [H.l42]; omega) (by rw [H.l43]; omega) (by omega) u2 hl l.2.2.length FU 0 1 _ (by omega) (fu_big (by omega)) (by omega) (by omega) rfl
  rw [List.drop_zero, Int.one_mul, show ((0 : Nat) : Int) = 0 from rfl, Int.add_zero] at this
  exact this
