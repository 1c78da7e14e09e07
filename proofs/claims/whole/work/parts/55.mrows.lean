/-! the reference: primes of a number; rows of a line that is found -/
def XK (b j : Int) : Prop := (b = 27 ∧ j = 6) ∨ b = 31 ∨ b = 32
theorem XK.mut {b j : Int} (h : XK b j) : Mut b j := mutM (by unfold XK at h; unfold MutM; omega)
def FCM (h : AH) (l : List FE) : Prop := hCe h 27 6 = (l.length : Int) ∧ l.length ≤ 9 ∧ ∀ i : Nat, i < l.length → hCe h 31 i = (ge l i).1 ∧ hCe h 32 i = (ge l i).2
theorem FCM.fr {P : Int → Int → Prop} {h h' : AH} {l : List FE} (D : FCM h l) (F : Fr P h h') (q : ¬ P 27 6) (q1 : ∀ j, ¬ P 31 j) (q2 : ∀ j, ¬ P 32 j) : FCM h' l := by
  refine ⟨(F.2 _ _ q).trans D.1, D.2.1, fun i hi => ?_⟩
  rw [F.2 _ _ (q1 _), F.2 _ _ (q2 _)]
  exact D.2.2 i hi
theorem lf_in {k12 : Int → Int → Int → AH → Option AH} {d : Int} (hd : 2 ≤ d ∧ d < 70000) {n : Nat} (hn : n < 9) : ∀ (k f : Nat) (r t : Int) (h : AH), 1 ≤ r → r < 2 ^ k → k ≤ 31 → k < f → Sh h → hCe h 27 6 = (n : Int) → hCe h 32 n = t → 0 ≤ t → t + k ≤ 100 → ∃ h', Fr (fun b j => (b = 27 ∧ j = 6) ∨ (b = 32 ∧ j = (n : Int))) h h' ∧ hCe h' 27 6 = (n : Int) + 1 ∧ hCe h' 32 n = t + ((dvS r d).1 : Int) ∧ R_laysFactors_56 k12 f 27 r d h = k12 27 (dvS r d).2 (d + 1) h' := by
  intro k
  induction k with
  | zero => intro f r t h h1 h2; simp at h2; omega
  | succ k ih =>
    intro f r t h h1 h2 hk hf H c6 ct t0 t1
    obtain ⟨f, rfl, hf⟩ := fu_pos hf
    have l := dv_lt hd.1 h1
    have r31 : r < 2147483648 := by
      have : (2 : Int) ^ (k + 1) ≤ 2 ^ 31 := by
        have := Nat.pow_le_pow_right (n := 2) (by omega) hk
        exact_mod_cast this
      omega
    by_cases q : r % d = 0
    · have b := dv_ex hd.1 h1 q
      have F1 : Fr (fun b j => (b = 27 ∧ j = 6) ∨ (b = 32 ∧ j = (n : Int))) h (hSet h 32 n (t + 1)) := Fr.set (Or.inr ⟨rfl, rfl⟩)
      obtain ⟨h', F', e6, et, e⟩ := ih f (r / d) (t + 1) (hSet h 32 n (t + 1)) b.2 (by rw [Int.pow_succ] at h2; omega) (by omega) (by omega) (H.fr F1 fun b j z => mutM (by unfold MutM; omega)) ((cN (by omega)).trans c6) (cS _ _ _ _) (by omega) (by omega)
      refine ⟨h', F1.tr F', e6, ?_, ?_⟩
      · rw [et, dvS_y hd.1 h1 q]
        show t + 1 + ((dvS (r / d) d).1 : Int) = t + (((dvS (r / d) d).1 + 1 : Nat) : Int)
        omega
      · conv => lhs; unfold R_laysFactors_56
        rw [tm_e (by omega), td_e (by omega)]
        refine gB (by omega) ?_
        refine ifT q ?_
        refine gB (by omega) ?_
        refine gB H.t27 ?_
        refine gB H.t27 ?_
        rw [H.p27_5, c6]
        refine gB ⟨H.t32, by omega, by rw [H.l32]; omega⟩ ?_
        refine gB ⟨H.t32, by omega, by rw [H.l32]; omega⟩ ?_
        rw [ct, w64_e (by omega), w32_e (by omega), e, dvS_y hd.1 h1 q]
    · refine ⟨hSet h 27 6 ((n : Int) + 1), Fr.set (Or.inl ⟨rfl, rfl⟩), cS _ _ _ _, by rw [cN (by omega), ct, dvS_n q]; exact (Int.add_zero t).symm, ?_⟩
      conv => lhs; unfold R_laysFactors_56
      rw [tm_e (by omega), td_e (by omega)]
      refine gB (by omega) ?_
      refine ifF q ?_
      refine gB H.t27 ?_
      rw [c6, w32_e (by omega), w64_e (by omega), dvS_n q]
      exact gB H.t27 rfl
theorem FCM.add {h h' : AH} {l : List FE} (D : FCM h l) (h9 : l.length < 9) {p e : Int} (c6 : hCe h' 27 6 = (l.length : Int) + 1) (c1 : ∀ j : Nat, j < l.length → hCe h' 31 j = hCe h 31 j ∧ hCe h' 32 j = hCe h 32 j) (n1 : hCe h' 31 l.length = p) (n2 : hCe h' 32 l.length = e) : FCM h' (l ++ [(p, e)]) := by
  refine ⟨by rw [c6, List.length_append]; rfl, by rw [List.length_append]; exact h9, fun i hi => ?_⟩
  rw [ge_app hi]
  by_cases q : i = l.length
  · subst q; rw [if_pos rfl]; exact ⟨n1, n2⟩
  · rw [if_neg q]
    rw [List.length_append] at hi
    have hi2 : i < l.length := by simp at hi; omega
    rw [(c1 i hi2).1, (c1 i hi2).2]
    exact D.2.2 i hi2
theorem lf_out : ∀ (k f : Nat) (d r : Int) (l : List FE) (h : AH), k < f → d + k = 65538 → 2 ≤ d → 1 ≤ r → r < 2147483648 → Sh h → FCM h l → (l ++ facA k d r).length ≤ 9 → ∃ h', R_laysFactors_12 f 27 r d h = some h' ∧ Fr XK h h' ∧ FCM h' (l ++ facA k d r) := by
  have fin : ∀ (f : Nat) (d r : Int) (l : List FE) (h : AH), 2 ≤ d → d < 70000 → 1 ≤ r → r < 2147483648 → r < d * d → Sh h → FCM h l → (l ++ (if r < 2 then ([] : List FE) else [(r, 1)])).length ≤ 9 → ∃ h', R_laysFactors_12 (f + 1) 27 r d h = some h' ∧ Fr XK h h' ∧ FCM h' (l ++ (if r < 2 then ([] : List FE) else [(r, 1)])) := by
    intro f d r l h hd hd2 h1 hr q H D h9
    have mb := mul_bd (a := d) (b := d) (by omega) (by omega)
    by_cases z : r < 2
    · rw [if_pos z, List.append_nil]
      refine ⟨h, ?_, Fr.rf, D⟩
      unfold R_laysFactors_12
      rw [w64_e (by omega)]
      exact ifT q (ifT z rfl)
    · rw [if_neg z] at h9 ⊢
      have l9 : l.length < 9 := by rw [List.length_append] at h9; simp at h9; omega
      have c6 := D.1
      refine ⟨hSet (hSet (hSet h 31 l.length r) 32 l.length 1) 27 6 ((l.length : Int) + 1), ?_, ?_, ?_⟩
      · unfold R_laysFactors_12
        rw [w64_e (by omega)]
        refine ifT q (ifF z ?_)
        simp (disch := omega) only [gdT, gdS, true_and, and_true, tS, lS, cS, cN, Option.bind_some, H.t27, H.p27_4, H.p27_5, H.t31, H.l31, H.t32, H.l32, c6, w32_e]
      · refine Fr.setT (Fr.setT (Fr.set ?_) ?_) ?_ <;> (unfold XK; omega)
      · refine D.add l9 (cS _ _ _ _) (fun j hj => ⟨?_, ?_⟩) ?_ ?_
        · rw [cN (by omega), cN (by omega), cN (by omega)]
        · rw [cN (by omega), cN (by omega), cN (by omega)]
        · rw [cN (by omega), cN (by omega)]; exact cS _ _ _ _
        · rw [cN (by omega)]; exact cS _ _ _ _
  intro k
  induction k with
  | zero =>
    intro f d r l h hf hd h2 h1 hr H D h9
    obtain ⟨f, rfl, -⟩ := fu_pos hf
    have d8 : d = 65538 := by omega
    subst d8
    exact fin f 65538 r l h (by omega) (by omega) h1 hr (by omega) H D h9
  | succ k ih =>
    intro f d r l h hf hd h2 h1 hr H D h9
    obtain ⟨f, rfl, hf⟩ := fu_pos hf
    have mb := mul_bd (a := d) (b := d) (by omega) (by omega)
    by_cases q : r < d * d
    · have e : facA (k + 1) d r = (if r < 2 then ([] : List FE) else [(r, 1)]) := by unfold facA; rw [if_pos q]
      rw [e] at h9 ⊢
      exact fin f d r l h h2 (by omega) h1 hr q H D h9
    · by_cases z : r % d = 0
      · have e : facA (k + 1) d r = (d, ((dvS r d).1 : Int)) :: facA k (d + 1) (dvS r d).2 := by
          conv => lhs; unfold facA
          rw [if_neg q, if_pos z]
        have ap : l ++ (d, ((dvS r d).1 : Int)) :: facA k (d + 1) (dvS r d).2 = (l ++ [(d, ((dvS r d).1 : Int))]) ++ facA k (d + 1) (dvS r d).2 := by rw [List.append_assoc]; rfl
        rw [e] at h9 ⊢
        have l9 : l.length < 9 := by rw [List.length_append, List.length_cons] at h9; omega
        rw [ap] at h9 ⊢
        obtain ⟨c1, c2, c3, c4, c5⟩ := dvS_p h2 31 r h1 (by omega)
        have c6 := D.1
        let h1' := hSet (hSet h 31 l.length d) 32 l.length 0
        have F1 : Fr XK h h1' := Fr.setT (Fr.set (by unfold XK; omega)) (by unfold XK; omega)
        have H1 := H.fr F1 fun b j => XK.mut
        have k6 : hCe h1' 27 6 = (l.length : Int) := (cN (by omega)).trans ((cN (by omega)).trans c6)
        have st : R_laysFactors_12 (f + 1) 27 r d h = R_laysFactors_56 (fun a0 a1 a2 h0 => R_laysFactors_12 f a0 a1 a2 h0) FU 27 r d h1' := by
          conv => lhs; unfold R_laysFactors_12
          rw [w64_e (z := d * d) (by omega), tm_e (by omega)]
          refine ifF q ?_
          refine gB (by omega) ?_
          refine ifT z ?_
          simp (disch := omega) only [gdT, gdS, true_and, and_true, tS, lS, cS, cN, Option.bind_some, H.t27, H.p27_4, H.p27_5, H.t31, H.l31, H.t32, H.l32, c6, w32_e]
          rfl
        obtain ⟨h2', F2, e6, et, e2⟩ := lf_in (k12 := fun a0 a1 a2 h0 => R_laysFactors_12 f a0 a1 a2 h0) (d := d) ⟨h2, by omega⟩ l9 31 FU r 0 h1' h1 (by omega) (Nat.le_refl _) (fu_big (by omega)) H1 k6 (cS _ _ _ _) (Int.le_refl _) (by omega)
        have F12 : Fr XK h h2' := F1.tr (F2.mo fun b j z => by unfold XK; omega)
        have D2 : FCM h2' (l ++ [(d, ((dvS r d).1 : Int))]) := by
          refine D.add l9 e6 (fun j hj => ⟨?_, ?_⟩) ?_ (by rw [et, Int.zero_add])
          · rw [F2.2 _ _ (by omega)]; exact (cN (by omega)).trans (cN (by omega))
          · rw [F2.2 _ _ (by omega)]; exact (cN (by omega)).trans (cN (by omega))
          · rw [F2.2 _ _ (by omega)]; exact (cN (by omega)).trans (cS _ _ _ _)
        obtain ⟨h', e', F', D'⟩ := ih f (d + 1) (dvS r d).2 _ h2' (by omega) (by omega) (by omega) c1 (by omega) (H.fr F12 fun b j => XK.mut) D2 h9
        exact ⟨h', st.trans (e2.trans e'), F12.tr F', D'⟩
      · have e : facA (k + 1) d r = facA k (d + 1) r := by
          conv => lhs; unfold facA
          rw [if_neg q, if_neg z]
        rw [e] at h9 ⊢
        obtain ⟨h', e', F', D'⟩ := ih f (d + 1) r l h (by omega) (by omega) (by omega) h1 hr H D h9
        refine ⟨h', ?_, F', D'⟩
        unfold R_laysFactors_12
        rw [w64_e (z := d * d) (by omega), tm_e (by omega)]
        refine ifF q ?_
        refine gB (by omega) ?_
        refine ifF z ?_
        rw [w64_e (by omega)]
        exact e'
theorem s_laysFactors {h : AH} (H : Sh h) {n : Int} (h1 : 1 ≤ n) (h2 : n ≤ 1000000001) : ∃ h', R_laysFactors 27 n h = some h' ∧ Fr XK h h' ∧ FCM h' (facS n) := by
  have F0 : Fr XK h (hSet h 27 6 0) := Fr.set (Or.inl ⟨rfl, rfl⟩)
  have D0 : FCM (hSet h 27 6 0) [] := ⟨cS _ _ _ _, Nat.zero_le _, fun i hi => absurd hi (Nat.not_lt_zero i)⟩
  obtain ⟨h', e', F', D'⟩ := lf_out 65536 FU 2 n [] (hSet h 27 6 0) (fu_big (by omega)) (by omega) (by omega) h1 (by omega) (H.fr F0 fun b j => XK.mut) D0 (by rw [List.nil_append]; exact facS_len h1 h2)
  refine ⟨h', ?_, F0.tr F', D'⟩
  unfold R_laysFactors
  refine gB H.t27 ?_
  exact e'
/-! ### rows -/
def rD (b : Int) (x : FE) : RW := (x.1, x.2, b)
theorem s_rowsD {h : AH} (H : Sh h) {k : Nat} (hk : k ≤ 115) {l : LN} (L : LM h k l) (h9 : l.2.1.length < 9) {fs : List FE} (D : FCM h fs) {i : Nat} (hi : i < fs.length) {b : Int} : ∃ h', R_rowsOf 27 k 0 i b h = some h' ∧ Fr (MK k) h h' ∧ LM h' k (l.1, l.2.1 ++ [rD b (ge fs i)], l.2.2) := by
  obtain ⟨h', e', F', L'⟩ := s_addsDown H hk L h9 (q := (ge fs i).1) (e := (ge fs i).2) (a := b)
  have f9 := D.2.1
  have c := D.2.2 i hi
  refine ⟨h', ?_, F', L'⟩
  unfold R_rowsOf
  refine ifT rfl ?_
  refine gB H.t27 ?_
  rw [H.p27_4, H.p27_5]
  refine gB ⟨H.t31, by omega, by rw [H.l31]; omega⟩ ?_
  refine gB H.t27 ?_
  refine gB ⟨H.t32, by omega, by rw [H.l32]; omega⟩ ?_
  refine gB H.t27 ?_
  rw [c.1, c.2]
  exact cB e' rfl
theorem s_rowsU {h : AH} (H : Sh h) {k : Nat} (hk : k ≤ 115) {l : LN} (L : LM h k l) (h9 : l.2.2.length < 9) {fs : List FE} (D : FCM h fs) {i : Nat} (hi : i < fs.length) {b : Int} : ∃ h', R_rowsOf 27 k 1 i b h = some h' ∧ Fr (MK k) h h' ∧ LM h' k (l.1, l.2.1, l.2.2 ++ [rD 0 (ge fs i)]) := by
  obtain ⟨h', e', F', L'⟩ := s_addsUp H hk L h9 (q := (ge fs i).1) (e := (ge fs i).2) (a := 0)
  have f9 := D.2.1
  have c := D.2.2 i hi
  refine ⟨h', ?_, F', L'⟩
  unfold R_rowsOf
  refine ifF (by omega) ?_
  refine gB H.t27 ?_
  rw [H.p27_4, H.p27_5]
  refine gB ⟨H.t31, by omega, by rw [H.l31]; omega⟩ ?_
  refine gB H.t27 ?_
  refine gB ⟨H.t32, by omega, by rw [H.l32]; omega⟩ ?_
  refine gB H.t27 ?_
  rw [c.1, c.2]
  exact cB e' rfl
