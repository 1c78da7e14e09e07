/-! the reference finds a line -/
def ob {α : Type} (o : Option α) : Int := match o with
  | some _ => 1
  | none => 0
theorem one_ne : ¬ ((1 : Int) = 0) := by decide
def sbR (a : Int) (r : RW) : RW := (r.1, r.2.1, a)
theorem d5_map {n a : Int} : ∀ {l : List RW}, l ≠ [] → d5 n (l.map (sbR a)) = decide (pwS a (n - 1) n = 1)
  | [], h => absurd rfl h
  | [r], _ => by
    show (decide (pwS a (n - 1) n = 1) && true) = _
    rw [Bool.and_true]
  | r :: x :: l, _ => by
    have := d5_map (n := n) (a := a) (l := x :: l) (by simp)
    rw [List.map_cons, d5_c, this]
    show (decide (pwS a (n - 1) n = 1) && decide (pwS a (n - 1) n = 1)) = _
    rw [Bool.and_self]
theorem df_0 {n : Int} {l : List RW} : dfS n l = 0 ↔ d5 n l = true ∧ d6 n l = true := by
  unfold dfS
  cases d5 n l <;> cases d6 n l <;> simp
theorem rf_0 {n q b : Int} : rfS n q b = 0 ↔ pwS b (n - 1) n = 1 ∧ gcS ((pwS b ((n - 1) / q) n - 1) % n) n = 1 := by
  rcases rf_c n q b with ⟨e, g⟩ | ⟨g, ⟨e, g2⟩ | ⟨e, g2⟩⟩
  · exact ⟨fun z => by omega, fun z => absurd z.1 g⟩
  · exact ⟨fun _ => ⟨g, g2⟩, fun _ => e⟩
  · exact ⟨fun z => by omega, fun z => absurd z.2 g2⟩
/-- a flag goes through the rows -/
theorem lb_fl {k25 : Int → Int → Int → Int → Int → AH → Option (Int × AH)} {h : AH} (H : Sh h) {l : LN} (L : LM h 115 l) (hn : okN l.1.1) (hq : ∀ r ∈ l.2.1, 1 ≤ r.1) {a : Int} (ha : okB a) : ∀ (m f j : Nat) (b : Bool), j + m = l.2.1.length → m < f → R_laysBases_46 k25 f 27 115 1035 l.1.1 a (b2i b) (1035 + (j : Int)) h = if (b && d6 l.1.1 ((l.2.1.drop j).map (sbR a))) = true then R_laysBases_99 FU 27 115 1035 a 1035 h else k25 27 115 1035 l.1.1 (a + 1) h := by
  have d9 := L.2.1.2.1
  have a1 := ha.1
  have a2 := ha.2
  intro m
  induction m with
  | zero =>
    intro f j b hj hf
    obtain ⟨f, rfl, -⟩ := fu_pos hf
    unfold R_laysBases_46
    refine gB H.t27 ?_
    rw [H.p27_12]
    refine gB ⟨H.t37, by omega, by rw [H.l37]; omega⟩ ?_
    have e := L.2.1.1
    rw [show ((115 : Nat) : Int) = 115 from rfl] at e
    rw [e, w32_e (by omega), dr_e (by omega)]
    refine ifF (by omega) ?_
    rw [w32_e (by omega)]
    cases b
    · exact ifT rfl rfl
    · exact ifF (by decide) rfl
  | succ m ih =>
    intro f j b hj hf
    obtain ⟨f, rfl, hf⟩ := fu_pos hf
    have hj' : j < l.2.1.length := by omega
    have hr := hq _ (gt_mem hj')
    have c := (L.2.1.2.2.1 j hj').1
    rw [show 9 * ((115 : Nat) : Int) + (j : Int) = 1035 + (j : Int) from rfl] at c
    unfold R_laysBases_46
    refine gB H.t27 ?_
    rw [H.p27_12]
    refine gB ⟨H.t37, by omega, by rw [H.l37]; omega⟩ ?_
    have e := L.2.1.1
    rw [show ((115 : Nat) : Int) = 115 from rfl] at e
    rw [e, w32_e (z := 1035 + (l.2.1.length : Int)) (by omega)]
    refine ifT (by omega) ?_
    cases b
    · refine ifT rfl ?_
      refine ifT rfl ?_
      rw [w32_e (by omega), Bool.false_and]
      rfl
    · refine ifF (by decide) ?_
      refine gB H.t27 ?_
      rw [H.p27_14]
      refine gB ⟨H.t39, by omega, by rw [H.l39]; omega⟩ ?_
      rw [c]
      refine cB (s_isApartBy hn (by omega) hr) ?_
      rw [w32_e (by omega), show 1035 + (j : Int) + 1 = 1035 + ((j + 1 : Nat) : Int) by omega, ih f (j + 1) _ (by omega) (by omega), gt_dr hj', List.map_cons, d6_c, Bool.true_and]
      rfl
theorem lb_set {h0 : AH} {l : LN} {a : Int} : ∀ (m f j : Nat) (h : AH), j + m = l.2.1.length → m < f → Sh h → Fr (MK 115) h0 h → LM h 115 (l.1, (l.2.1.take j).map (sbR a) ++ l.2.1.drop j, l.2.2) → ∃ h', R_laysBases_99 f 27 115 1035 a (1035 + (j : Int)) h = some (1, h') ∧ Fr (MK 115) h0 h' ∧ LM h' 115 (l.1, l.2.1.map (sbR a), l.2.2) := by
  have len : ∀ j, j ≤ l.2.1.length → ((l.2.1.take j).map (sbR a) ++ l.2.1.drop j).length = l.2.1.length := fun j hj => by
    rw [List.length_append, List.length_map, List.length_take, List.length_drop]; omega
  intro m
  induction m with
  | zero =>
    intro f j h hj hf H F L
    obtain ⟨f, rfl, -⟩ := fu_pos hf
    have d9 := L.2.1.2.1
    have e : hCe h 37 115 = (l.2.1.length : Int) := by
      have := L.2.1.1
      rw [len j (by omega)] at this
      exact this
    rw [len j (by omega)] at d9
    rw [dr_e (by omega), List.append_nil, List.take_of_length_le (by omega)] at L
    refine ⟨h, ?_, F, L⟩
    unfold R_laysBases_99
    refine gB H.t27 ?_
    rw [H.p27_12]
    refine gB ⟨H.t37, by omega, by rw [H.l37]; omega⟩ ?_
    rw [e, w32_e (by omega)]
    exact ifF (by omega) rfl
  | succ m ih =>
    intro f j h hj hf H F L
    obtain ⟨f, rfl, hf⟩ := fu_pos hf
    have hj' : j < l.2.1.length := by omega
    have d9 := L.2.1.2.1
    have e : hCe h 37 115 = (l.2.1.length : Int) := by
      have := L.2.1.1
      rw [len j (by omega)] at this
      exact this
    rw [len j (by omega)] at d9
    have F1 : Fr (MK 115) h (hSet h 41 (1035 + (j : Int)) a) := Fr.set (by unfold MK; omega)
    have nx : (l.2.1.take (j + 1)).map (sbR a) ++ l.2.1.drop (j + 1) = ((l.2.1.take j).map (sbR a) ++ l.2.1.drop j).set j (sbR a (gt l.2.1 j)) := by
      rw [← tk_s hj', List.map_append, List.append_assoc, gt_dr hj']
      rw [List.set_append_right _ _ (by rw [List.length_map, List.length_take]; omega), List.length_map, List.length_take, show j - min j l.2.1.length = 0 by omega]
      rfl
    have g0 : gt ((l.2.1.take j).map (sbR a) ++ l.2.1.drop j) j = gt l.2.1 j := by
      rw [gt_ap, if_neg (by rw [List.length_map, List.length_take]; omega), List.length_map, List.length_take, show j - min j l.2.1.length = 0 by omega, gt_dr hj']
      rfl
    have L1 : LM (hSet h 41 (1035 + (j : Int)) a) 115 (l.1, (l.2.1.take (j + 1)).map (sbR a) ++ l.2.1.drop (j + 1), l.2.2) := by
      obtain ⟨b1, ⟨b2, b3, b4, b5⟩, b6, b7, b8⟩ := L
      rw [nx]
      refine ⟨?_, ⟨?_, ?_, fun i hi => ?_, fun i hi => ?_⟩, ?_, b7, fun i hi => ?_⟩
      · obtain ⟨c1, c2, c3, c4⟩ := b1
        exact ⟨(cN (by omega)).trans c1, (cN (by omega)).trans c2, (cN (by omega)).trans c3, (cN (by omega)).trans c4⟩
      · rw [cN (by omega)]; rw [List.length_set]; exact b2
      · rw [List.length_set]; exact b3
      · rw [List.length_set] at hi
        have := b4 i hi
        rw [gt_set (by rw [len j (by omega)]; exact hj')]
        rw [cN (by omega), cN (by omega)]
        by_cases q : i = j
        · subst q
          rw [if_pos rfl]
          rw [g0] at this
          exact this
        · rw [if_neg q]; exact this
      · rw [List.length_set] at hi
        have := b5 i hi
        rw [gt_set (by rw [len j (by omega)]; exact hj')]
        by_cases q : i = j
        · subst q
          rw [if_pos rfl]
          exact cS _ _ _ _
        · rw [if_neg q, cN (by omega)]; exact this
      · rw [cN (by omega)]; exact b6
      · rw [cN (by omega), cN (by omega)]; exact b8 i hi
    obtain ⟨h', e', F', L'⟩ := ih f (j + 1) (hSet h 41 (1035 + (j : Int)) a) (by omega) (by omega) (H.fr F1 fun b j => MK.mut) (F.tr F1) L1
    refine ⟨h', ?_, F', L'⟩
    unfold R_laysBases_99
    refine gB H.t27 ?_
    rw [H.p27_12]
    refine gB ⟨H.t37, by omega, by rw [H.l37]; omega⟩ ?_
    rw [e, w32_e (z := 1035 + (l.2.1.length : Int)) (by omega)]
    refine ifT (by omega) ?_
    refine gB H.t27 ?_
    rw [H.p27_16]
    refine gB ⟨H.t41, by omega, by rw [H.l41]; omega⟩ ?_
    rw [w32_e (by omega), show 1035 + (j : Int) + 1 = 1035 + ((j + 1 : Nat) : Int) by omega]
    exact e'
theorem lb_one {h : AH} (H : Sh h) {l : LN} (L : LM h 115 l) (hn : okN l.1.1) (hq : ∀ r ∈ l.2.1, 1 ≤ r.1) (hne : l.2.1 ≠ []) : ∀ (m f : Nat) (a : Int), a + m = 1000 → 2 ≤ a → m < f → ∃ h', R_laysBases_25 f 27 115 1035 l.1.1 a h = some (ob (fstB (fun a => decide (dfS l.1.1 (l.2.1.map (sbR a)) = 0)) m a), h') ∧ Fr (MK 115) h h' ∧ ∀ v, fstB (fun a => decide (dfS l.1.1 (l.2.1.map (sbR a)) = 0)) m a = some v → LM h' 115 (l.1, l.2.1.map (sbR v), l.2.2) := by
  have d9 := L.2.1.2.1
  intro m
  induction m with
  | zero =>
    intro f a ha h2 hf
    obtain ⟨f, rfl, -⟩ := fu_pos hf
    refine ⟨h, ?_, Fr.rf, fun v hv => by cases hv⟩
    unfold R_laysBases_25
    exact ifT (by omega) rfl
  | succ m ih =>
    intro f a ha h2 hf
    obtain ⟨f, rfl, hf⟩ := fu_pos hf
    have key : dfS l.1.1 (l.2.1.map (sbR a)) = 0 ↔ (decide (pwS a (l.1.1 - 1) l.1.1 = 1) && d6 l.1.1 (l.2.1.map (sbR a))) = true := by
      rw [df_0, d5_map hne, Bool.and_eq_true]
    have run : R_laysBases_25 (f + 1) 27 115 1035 l.1.1 a h = if (decide (pwS a (l.1.1 - 1) l.1.1 = 1) && d6 l.1.1 (l.2.1.map (sbR a))) = true then R_laysBases_99 FU 27 115 1035 a 1035 h else R_laysBases_25 f 27 115 1035 l.1.1 (a + 1) h := by
      conv => lhs; unfold R_laysBases_25
      refine ifF (by omega) ?_
      refine cB (s_isOneBy hn (by omega)) ?_
      exact lb_fl H L hn hq ⟨h2, by omega⟩ l.2.1.length FU 0 _ (by omega) (fu_big (by omega))
    unfold fstB
    by_cases z : dfS l.1.1 (l.2.1.map (sbR a)) = 0
    · rw [if_pos (decide_eq_true z)]
      obtain ⟨h', e', F', L'⟩ := lb_set (h0 := h) (l := l) (a := a) l.2.1.length FU 0 h (by omega) (fu_big (by omega)) H Fr.rf L
      refine ⟨h', ?_, F', fun v hv => by cases hv; exact L'⟩
      rw [run, if_pos (key.mp z)]
      exact e'
    · rw [if_neg (fun y => z (of_decide_eq_true y))]
      obtain ⟨h', e', F', L'⟩ := ih f (a + 1) (by omega) (by omega) (by omega)
      refine ⟨h', ?_, F', L'⟩
      rw [run, if_neg (fun y => z (key.mpr y))]
      exact e'
theorem lb_row {k140 : Int → Int → Int → Int → Int → AH → Option (Int × AH)} {h : AH} (H : Sh h) {n q : Int} (hn : okN n) (hq : 1 ≤ q) {j : Nat} (hj : j < 9) (c : hCe h 39 (1035 + (j : Int)) = q) : ∀ (m f : Nat) (a : Int), a + m = 1000 → 2 ≤ a → m < f → R_laysBases_156 k140 f 27 115 1035 n (1035 + (j : Int)) a h = match fstB (fun a => decide (rfS n q a = 0)) m a with | some v => k140 27 115 1035 n (1035 + (j : Int) + 1) (hSet h 41 (1035 + (j : Int)) v) | none => some (0, h) := by
  intro m
  induction m with
  | zero =>
    intro f a ha h2 hf
    obtain ⟨f, rfl, -⟩ := fu_pos hf
    unfold R_laysBases_156
    exact ifT (by omega) (ifT (by omega) rfl)
  | succ m ih =>
    intro f a ha h2 hf
    obtain ⟨f, rfl, hf⟩ := fu_pos hf
    unfold R_laysBases_156 fstB
    refine ifF (by omega) ?_
    refine cB (s_isOneBy hn (by omega)) ?_
    rw [w32_e (z := a + 1) (by omega)]
    by_cases z : rfS n q a = 0
    · have z2 := rf_0.mp z
      rw [decide_eq_true z2.1, if_pos (decide_eq_true z)]
      refine ifF (by decide) ?_
      refine gB H.t27 ?_
      rw [H.p27_14]
      refine gB ⟨H.t39, by omega, by rw [H.l39]; omega⟩ ?_
      rw [c]
      refine cB (s_isApartBy hn (by omega) hq) ?_
      rw [decide_eq_true z2.2]
      refine ifF (by decide) ?_
      refine ifF (by omega) ?_
      refine gB H.t27 ?_
      rw [H.p27_16]
      refine gB ⟨H.t41, by omega, by rw [H.l41]; omega⟩ ?_
      rw [w32_e (by omega)]
    · rw [if_neg (fun y => z (of_decide_eq_true y))]
      by_cases o : pwS a (n - 1) n = 1
      · rw [decide_eq_true o]
        refine ifF (by decide) ?_
        refine gB H.t27 ?_
        rw [H.p27_14]
        refine gB ⟨H.t39, by omega, by rw [H.l39]; omega⟩ ?_
        rw [c]
        refine cB (s_isApartBy hn (by omega) hq) ?_
        rw [decide_eq_false (fun y => z (rf_0.mpr ⟨o, y⟩))]
        refine ifT rfl ?_
        exact ih f (a + 1) (by omega) (by omega) (by omega)
      · rw [decide_eq_false o]
        refine ifT rfl ?_
        exact ih f (a + 1) (by omega) (by omega) (by omega)
theorem lb_each {h0 : AH} {l : LN} (hn : okN l.1.1) (hq : ∀ r ∈ l.2.1, 1 ≤ r.1) : ∀ (m f j : Nat) (h : AH) (pre : List RW), j + m = l.2.1.length → m < f → pre.length = j → Sh h → Fr (MK 115) h0 h → LM h 115 (l.1, pre ++ l.2.1.drop j, l.2.2) → ∃ h', R_laysBases_140 f 27 115 1035 l.1.1 (1035 + (j : Int)) h = some (ob (bsS l.1.1 (l.2.1.drop j)), h') ∧ Fr (MK 115) h0 h' ∧ ∀ v, bsS l.1.1 (l.2.1.drop j) = some v → LM h' 115 (l.1, pre ++ v, l.2.2) := by
  intro m
  induction m with
  | zero =>
    intro f j h pre hj hf hp H F L
    obtain ⟨f, rfl, -⟩ := fu_pos hf
    have d9 := L.2.1.2.1
    have e : hCe h 37 115 = (((pre ++ l.2.1.drop j).length : Nat) : Int) := L.2.1.1
    have e3 : (pre ++ l.2.1.drop j).length = l.2.1.length := by rw [List.length_append, List.length_drop]; omega
    rw [e3] at e d9
    rw [dr_e (show l.2.1.length ≤ j by omega)] at L ⊢
    refine ⟨h, ?_, F, fun v hv => by cases hv; exact L⟩
    unfold R_laysBases_140
    refine gB H.t27 ?_
    rw [H.p27_12]
    refine gB ⟨H.t37, by omega, by rw [H.l37]; omega⟩ ?_
    rw [e, w32_e (by omega)]
    exact ifF (by omega) rfl
  | succ m ih =>
    intro f j h pre hj hf hp H F L
    obtain ⟨f, rfl, hf⟩ := fu_pos hf
    have hj' : j < l.2.1.length := by omega
    have hr := hq _ (gt_mem hj')
    have d9 := L.2.1.2.1
    have e : hCe h 37 115 = (((pre ++ l.2.1.drop j).length : Nat) : Int) := L.2.1.1
    have e3 : (pre ++ l.2.1.drop j).length = l.2.1.length := by rw [List.length_append, List.length_drop]; omega
    rw [e3] at e d9
    have g0 : gt (pre ++ l.2.1.drop j) j = gt l.2.1 j := by
      rw [gt_ap, if_neg (by omega), show j - pre.length = 0 by omega, gt_dr hj']
      rfl
    have c : hCe h 39 (1035 + (j : Int)) = (gt l.2.1 j).1 := by
      have := (L.2.1.2.2.1 j (by show j < (pre ++ l.2.1.drop j).length; omega)).1
      rw [show gt (l.1, pre ++ l.2.1.drop j, l.2.2).2.1 j = gt l.2.1 j from g0] at this
      exact this
    have run : R_laysBases_140 (f + 1) 27 115 1035 l.1.1 (1035 + (j : Int)) h = match lbS l.1.1 (gt l.2.1 j).1 with | some v => R_laysBases_140 f 27 115 1035 l.1.1 (1035 + (j : Int) + 1) (hSet h 41 (1035 + (j : Int)) v) | none => some (0, h) := by
      conv => lhs; unfold R_laysBases_140
      refine gB H.t27 ?_
      rw [H.p27_12]
      refine gB ⟨H.t37, by omega, by rw [H.l37]; omega⟩ ?_
      rw [e, w32_e (by omega)]
      refine ifT (by omega) ?_
      exact lb_row H hn hr (by omega) c 998 FU 2 (by omega) (by omega) (fu_big (by omega))
    rw [gt_dr hj']
    unfold bsS
    cases lb : lbS l.1.1 (gt l.2.1 j).1 with
    | none =>
      refine ⟨h, ?_, F, fun v hv => by cases hv⟩
      rw [run, lb]
      rfl
    | some b =>
      have F1 : Fr (MK 115) h (hSet h 41 (1035 + (j : Int)) b) := Fr.set (by unfold MK; omega)
      have L1 : LM (hSet h 41 (1035 + (j : Int)) b) 115 (l.1, (pre ++ [((gt l.2.1 j).1, (gt l.2.1 j).2.1, b)]) ++ l.2.1.drop (j + 1), l.2.2) := by
        have nx : (pre ++ [((gt l.2.1 j).1, (gt l.2.1 j).2.1, b)]) ++ l.2.1.drop (j + 1) = (pre ++ l.2.1.drop j).set j ((gt l.2.1 j).1, (gt l.2.1 j).2.1, b) := by
          rw [gt_dr hj', List.set_append_right _ _ (by omega), show j - pre.length = 0 by omega, List.append_assoc]
          rfl
        obtain ⟨b1, ⟨b2, b3, b4, b5⟩, b6, b7, b8⟩ := L
        rw [nx]
        have lt : j < (pre ++ l.2.1.drop j).length := by omega
        refine ⟨?_, ⟨?_, ?_, fun i hi => ?_, fun i hi => ?_⟩, ?_, b7, fun i hi => ?_⟩
        · obtain ⟨c1, c2, c3, c4⟩ := b1
          exact ⟨(cN (by omega)).trans c1, (cN (by omega)).trans c2, (cN (by omega)).trans c3, (cN (by omega)).trans c4⟩
        · rw [cN (by omega)]; rw [List.length_set]; exact b2
        · rw [List.length_set]; exact b3
        · rw [List.length_set] at hi
          have := b4 i hi
          rw [gt_set lt, cN (by omega), cN (by omega)]
          by_cases q : i = j
          · subst q
            rw [if_pos rfl]
            rw [show gt (l.1, pre ++ l.2.1.drop i, l.2.2).2.1 i = gt l.2.1 i from g0] at this
            exact this
          · rw [if_neg q]; exact this
        · rw [List.length_set] at hi
          have := b5 i hi
          rw [gt_set lt]
          by_cases q : i = j
          · subst q
            rw [if_pos rfl]
            exact cS _ _ _ _
          · rw [if_neg q, cN (by omega)]; exact this
        · rw [cN (by omega)]; exact b6
        · rw [cN (by omega), cN (by omega)]; exact b8 i hi
      obtain ⟨h', e', F', L'⟩ := ih f (j + 1) (hSet h 41 (1035 + (j : Int)) b) (pre ++ [((gt l.2.1 j).1, (gt l.2.1 j).2.1, b)]) (by omega) (by omega) (by rw [List.length_append]; simp; omega) (H.fr F1 fun b j => MK.mut) (F.tr F1) L1
      refine ⟨h', ?_, F', fun v hv => ?_⟩
      · rw [run, lb]
        show R_laysBases_140 f 27 115 1035 l.1.1 (1035 + (j : Int) + 1) _ = _
        rw [show 1035 + (j : Int) + 1 = 1035 + ((j + 1 : Nat) : Int) by omega, e']
        cases bsS l.1.1 (l.2.1.drop (j + 1)) <;> rfl
      · cases bs : bsS l.1.1 (l.2.1.drop (j + 1)) with
        | none => rw [bs] at hv; cases hv
        | some v' =>
          rw [bs] at hv
          cases hv
          have := L' v' bs
          rw [List.append_assoc] at this
          exact this
/-- pairs -/
def ZK (b j : Int) : Prop := MK 115 b j ∨ QK b j
theorem ZK.mut {b j : Int} (h : ZK b j) : Mut b j := h.elim MK.mut QK.mut
theorem lp_in {k2 : Int → Int → Int → AH → Option (Int × AH)} {l : LN} (hn : okN l.1.1) (hq : ∀ r ∈ l.2.2, 1 ≤ r.1) {p : Int} (hp : okP p) : ∀ (m f : Nat) (q : Int) (h : AH), q + m = 100 → 1 ≤ q → m < f → Sh h → LM h 115 l → ∃ h', Fr ZK h h' ∧ (match fstB (fun q => decide (upS l.1.1 p q l.2.2 = 0)) m q with
    | some v => R_laysPair_10 k2 f 27 115 p q h = some (1, h') ∧ LM h' 115 ((l.1.1, l.1.2.1, p, v), l.2.1, l.2.2)
    | none => R_laysPair_10 k2 f 27 115 p q h = k2 27 115 (p + 1) h' ∧ Fr QK h h') := by
  have p1 := hp.1
  have p2 := hp.2
  intro m
  induction m with
  | zero =>
    intro f q h hqm h1 hf H L
    obtain ⟨f, rfl, -⟩ := fu_pos hf
    refine ⟨h, Fr.rf, ?_, Fr.rf⟩
    unfold R_laysPair_10
    refine ifT (by omega) ?_
    rw [w32_e (by omega)]
  | succ m ih =>
    intro f q h hqm h1 hf H L
    obtain ⟨f, rfl, hf⟩ := fu_pos hf
    obtain ⟨g, e, F⟩ := s_wrongPair H (k := 115) (by omega) L hn hp (q := q) ⟨h1, by omega⟩ hq
    rw [show ((115 : Nat) : Int) = 115 from rfl] at e
    have G := H.fr F fun b j => QK.mut
    have LG := L.fr F fun b i y z => by unfold MK at y; unfold QK at z; omega
    unfold fstB
    by_cases z : upS l.1.1 p q l.2.2 = 0
    · rw [if_pos (decide_eq_true z)]
      refine ⟨hSet (hSet g 35 115 p) 36 115 q, ((F.mo fun b j z => Or.inr z).setT (Or.inl (by unfold MK; omega))).setT (Or.inl (by unfold MK; omega)), ?_, ?_⟩
      · unfold R_laysPair_10
        refine ifF (by omega) ?_
        refine gB H.t27 ?_
        refine cB e ?_
        refine ifT z ?_
        dsimp only
        simp (disch := omega) only [gdT, gdS, true_and, and_true, tS, lS, cS, cN, Option.bind_some, G.t27, G.p27_10, G.p27_11, G.t35, G.l35, G.t36, G.l36]
      · obtain ⟨⟨c1, c2, c3, c4⟩, ⟨b2, b3, b4, b5⟩, b6, b7, b8⟩ := LG
        refine ⟨⟨?_, ?_, ?_, cS _ _ _ _⟩, ⟨?_, b3, fun i hi => ?_, fun i hi => ?_⟩, ?_, b7, fun i hi => ?_⟩
        · rw [cN (by omega), cN (by omega)]; exact c1
        · rw [cN (by omega), cN (by omega)]; exact c2
        · rw [cN (by omega)]; exact cS _ _ _ _
        · rw [cN (by omega), cN (by omega)]; exact b2
        · rw [cN (by omega), cN (by omega), cN (by omega), cN (by omega)]; exact b4 i hi
        · rw [cN (by omega), cN (by omega)]; exact b5 i hi
        · rw [cN (by omega), cN (by omega)]; exact b6
        · rw [cN (by omega), cN (by omega), cN (by omega), cN (by omega)]; exact b8 i hi
    · rw [if_neg (fun y => z (of_decide_eq_true y))]
      obtain ⟨h', F', r⟩ := ih f (q + 1) g (by omega) (by omega) (by omega) G LG
      have run : R_laysPair_10 k2 (f + 1) 27 115 p q h = R_laysPair_10 k2 f 27 115 p (q + 1) g := by
        conv => lhs; unfold R_laysPair_10
        refine ifF (by omega) ?_
        refine gB H.t27 ?_
        refine cB e ?_
        refine ifF z ?_
        rw [w32_e (by omega)]
      refine ⟨h', (F.mo fun b j z => Or.inr z).tr F', ?_⟩
      rw [run]
      cases fs : fstB (fun q => decide (upS l.1.1 p q l.2.2 = 0)) m (q + 1) with
      | some v => rw [fs] at r; exact r
      | none => rw [fs] at r; exact ⟨r.1, F.tr r.2⟩
theorem lp_out {l : LN} (hn : okN l.1.1) (hq : ∀ r ∈ l.2.2, 1 ≤ r.1) : ∀ (m f : Nat) (p : Int) (h : AH), p + m = 100 → 1 ≤ p → m < f → Sh h → LM h 115 l → ∃ h', R_laysPair_2 f 27 115 p h = some (ob (pqS l.1.1 l.2.2 m p), h') ∧ Fr ZK h h' ∧ ∀ v, pqS l.1.1 l.2.2 m p = some v → LM h' 115 ((l.1.1, l.1.2.1, v.1, v.2), l.2.1, l.2.2) := by
  intro m
  induction m with
  | zero =>
    intro f p h hp h1 hf H L
    obtain ⟨f, rfl, -⟩ := fu_pos hf
    refine ⟨h, ?_, Fr.rf, fun v hv => by cases hv⟩
    unfold R_laysPair_2
    exact ifT (by omega) rfl
  | succ m ih =>
    intro f p h hp h1 hf H L
    obtain ⟨f, rfl, hf⟩ := fu_pos hf
    obtain ⟨g, F, r⟩ := lp_in (k2 := fun a0 a1 a2 h0 => R_laysPair_2 f a0 a1 a2 h0) hn hq (p := p) ⟨h1, by omega⟩ 99 FU 1 h (by omega) (by omega) (fu_big (by omega)) H L
    have run : R_laysPair_2 (f + 1) 27 115 p h = R_laysPair_10 (fun a0 a1 a2 h0 => R_laysPair_2 f a0 a1 a2 h0) FU 27 115 p 1 h := by
      conv => lhs; unfold R_laysPair_2
      exact ifF (by omega) rfl
    unfold pqS
    cases fs : fstB (fun q => decide (upS l.1.1 p q l.2.2 = 0)) 99 1 with
    | some v =>
      rw [fs] at r
      exact ⟨g, run.trans r.1, F, fun w hw => by cases hw; exact r.2⟩
    | none =>
      rw [fs] at r
      have G := H.fr r.2 fun b j => QK.mut
      have LG := L.fr r.2 fun b i y z => by unfold MK at y; unfold QK at z; omega
      obtain ⟨h', e', F', L'⟩ := ih f (p + 1) g (by omega) (by omega) (by omega) G LG
      exact ⟨h', run.trans (r.1.trans e'), F.tr F', L'⟩
/-! ### all of it -/
def VK (b j : Int) : Prop := MK 115 b j ∨ QK b j ∨ XK b j
theorem VK.mut {b j : Int} (h : VK b j) : Mut b j := h.elim MK.mut fun z => z.elim QK.mut XK.mut
theorem fb_eq (n : Int) (l : List RW) : fbS n l = fstB (fun a => decide (dfS n (l.map (sbR a)) = 0)) 998 2 := rfl
theorem bsS_fst {n : Int} : ∀ {l v : List RW}, bsS n l = some v → v.map (fun r => (r.1, r.2.1)) = l.map fun r => (r.1, r.2.1)
  | [], v, h => by cases h; rfl
  | r :: l, v, h => by
    unfold bsS at h
    cases lb : lbS n r.1 with
    | none => rw [lb] at h; cases h
    | some b =>
      rw [lb] at h
      cases bs : bsS n l with
      | none => rw [bs] at h; cases h
      | some v' =>
        rw [bs] at h
        cases h
        show (r.1, r.2.1) :: v'.map _ = (r.1, r.2.1) :: l.map _
        rw [bsS_fst bs]
theorem bsS_base {n b : Int} : ∀ l : List FE, bsS n (l.map (rD b)) = bsS n (l.map (rD 0))
  | [] => rfl
  | x :: l => by
    show (match lbS n x.1 with | none => none | some c => match bsS n (l.map (rD b)) with | none => none | some l' => some ((x.1, x.2, c) :: l')) = (match lbS n x.1 with | none => none | some c => match bsS n (l.map (rD 0)) with | none => none | some l' => some ((x.1, x.2, c) :: l'))
    rw [bsS_base l]
theorem sb_rD (a b : Int) (l : List FE) : (l.map (rD b)).map (sbR a) = l.map (rD a) := by
  rw [List.map_map]
  rfl
theorem seS_base {n s b : Int} (hs : s ≠ 3) (D : List FE) (U : List RW) : seS n s (D.map (rD b)) U = seS n s (D.map (rD 0)) U := by
  unfold seS
  rw [bsS_base D]
  have : fbS n (D.map (rD b)) = fbS n (D.map (rD 0)) := by
    rw [fb_eq, fb_eq]
    simp only [sb_rD]
  rw [this]
  have e : ∀ a, (D.map (rD b)).map (fun r : RW => (r.1, r.2.1, a)) = (D.map (rD 0)).map (fun r : RW => (r.1, r.2.1, a)) := fun a => (sb_rD a b D).trans (sb_rD a 0 D).symm
  simp only [e, if_neg hs]
/-- the rows are those of some factors -/
theorem ly_form {n s : Int} (hs : 1 ≤ s ∧ s ≤ 4) : ∃ D U : List FE, (∀ b, lyS n s b = (D.map (rD b), U.map (rD 0))) ∧ (∀ x ∈ D, x ∈ facS (n - 1)) ∧ (∀ x ∈ U, x ∈ facS (n + 1)) ∧ (s ≤ 2 → U = []) ∧ (s = 3 → D = []) ∧ (s = 1 → D = facS (n - 1)) := by
  unfold lyS
  by_cases s1 : s = 1
  · exact ⟨facS (n - 1), [], fun b => by rw [if_pos s1]; rfl, fun x h => h, fun x h => absurd h List.not_mem_nil, fun _ => rfl, fun z => by omega, fun _ => rfl⟩
  by_cases s2 : s = 2
  · exact ⟨((facS (n - 1)).drop (tuN n 2 (facS (n - 1)) [] 18 (facS (n - 1)).length 0 false).1).reverse, [], fun b => by rw [if_neg s1, if_pos s2]; rfl, fun x h => List.mem_of_mem_drop (List.mem_reverse.mp h), fun x h => absurd h List.not_mem_nil, fun _ => rfl, fun z => by omega, fun z => by omega⟩
  by_cases s3 : s = 3
  · exact ⟨[], facS (n + 1), fun b => by rw [if_neg s1, if_neg s2, if_pos s3]; rfl, fun x h => absurd h List.not_mem_nil, fun x h => h, fun z => by omega, fun _ => rfl, fun z => by omega⟩
  · exact ⟨((facS (n - 1)).drop (tuN n 4 (facS (n - 1)) (facS (n + 1)) 18 (facS (n - 1)).length (facS (n + 1)).length false).1).reverse, ((facS (n + 1)).drop (tuN n 4 (facS (n - 1)) (facS (n + 1)) 18 (facS (n - 1)).length (facS (n + 1)).length false).2).reverse, fun b => by rw [if_neg s1, if_neg s2, if_neg s3]; rfl, fun x h => List.mem_of_mem_drop (List.mem_reverse.mp h), fun x h => List.mem_of_mem_drop (List.mem_reverse.mp h), fun z => by omega, fun z => by omega, fun z => by omega⟩
theorem lo_ne {n : Int} (hn : nbOK n) : facS (n - 1) ≠ [] := fun z => by
  have := (nb_lo hn).1.2.2
  rw [z] at this
  have h1 := hn.1
  unfold prE at this
  omega
theorem s_works {h : AH} (H : Sh h) {n s : Int} (hn : okN n) (hs : 0 ≤ s ∧ s ≤ 4) : ∃ h', R_works 27 n s h = some (ob (fdS n s), h') ∧ Fr VK h h' ∧ ∀ l, fdS n s = some l → LM h' 115 l := by
  have n1 := hn.1
  have n2 := hn.2
  obtain ⟨h1, e1, F1, L1⟩ := s_begins H (k := 115) (by omega) (n := n) (s := s)
  rw [show ((115 : Nat) : Int) = 115 from rfl] at e1
  have H1 := H.fr F1 fun b j => MK.mut
  have V1 : Fr VK h h1 := F1.mo fun b j z => Or.inl z
  unfold fdS
  have st : ∀ {r}, (if prS n = 0 then some (0, h1) else if s = 0 then (if n < 100 then some (1, h1) else some (0, h1)) else if n = 2 then some (0, h1) else (R_laysRows 27 115 h1).bind fun h5 =>
        (gd (hTy h5 27 = 10) 0).bind fun _ =>
        (R_laysBases 27 115 h5).bind fun u6 =>
        if u6.1 = 0 then
          some (0, u6.2)
        else
          (R_hasPair s).bind fun u7 =>
          if u7 = 0 then
            some (1, u6.2)
          else
            (gd (hTy u6.2 27 = 10) 0).bind fun _ =>
            (R_laysPair 27 115 u6.2).bind fun u8 =>
            if u8.1 = 0 then
              some (0, u8.2)
            else
              some (1, u8.2)) = r → R_works 27 n s h = r := by
    rintro r rfl
    unfold R_works
    refine gB H.t27 ?_
    refine cB e1 ?_
    refine cB (s_RisPrime2 (by omega)) ?_
    congr 1
    congr 1
    congr 1
    exact gB H1.t27 rfl
  rcases prS_01 n with p | p
  · rw [p, if_neg (by decide)]
    exact ⟨h1, st (ifT p rfl), V1, fun l hl => by cases hl⟩
  rw [p, if_pos rfl]
  have p0 : ¬ prS n = 0 := by omega
  by_cases s0 : s = 0
  · rw [if_pos s0]
    by_cases h100 : n < 100
    · rw [if_pos h100]
      exact ⟨h1, st (ifF p0 (ifT s0 (ifT h100 rfl))), V1, fun l hl => by cases hl; rw [s0] at L1; exact L1⟩
    · rw [if_neg h100]
      exact ⟨h1, st (ifF p0 (ifT s0 (ifF h100 rfl))), V1, fun l hl => by cases hl⟩
  rw [if_neg s0]
  by_cases two : n = 2
  · rw [if_pos two]
    exact ⟨h1, st (ifF p0 (ifF s0 (ifT two rfl))), V1, fun l hl => by cases hl⟩
  rw [if_neg two]
  have ip : isP n := Classical.byContradiction fun z => by rw [prS_f z] at p; omega
  have nb : nbOK n := ⟨by omega, n2, by
    rcases Int.emod_two_eq n with y | y
    · rcases Int.lt_or_le n 4 with w | w
      · omega
      · exact absurd y (ip.2 2 (by omega) (by omega))
    · exact y⟩
  obtain ⟨h2, e2, F2, L2⟩ := s_laysRows nb ⟨by omega, hs.2⟩ H1 L1
  have H2 := H1.fr F2 fun b j => YK.mut
  have V2 : Fr VK h h2 := V1.tr (F2.mo fun b j z => z.elim Or.inl fun y => Or.inr (Or.inr y))
  obtain ⟨D, U, ly, mD, mU, u0, d0, dall⟩ := ly_form (n := n) (s := s) ⟨by omega, hs.2⟩
  rw [ly 2] at L2
  rw [ly 0]
  have L2' : LM h2 115 ((n, s, 0, 0), D.map (rD 2), U.map (rD 0)) := L2
  have qD : ∀ r ∈ D.map (rD 2), 1 ≤ r.1 := fun r hr => by
    obtain ⟨x, hx, rfl⟩ := List.mem_map.mp hr
    have := (nb_lo1 nb (mD x hx)).1.1
    show 1 ≤ x.1
    omega
  have qU : ∀ r ∈ U.map (rD 0), 1 ≤ r.1 := fun r hr => by
    obtain ⟨x, hx, rfl⟩ := List.mem_map.mp hr
    have := (nb_hi1 nb (mU x hx)).1.1
    show 1 ≤ x.1
    omega
  have c33 : hCe h2 33 115 = n := L2'.1.1
  have c34 : hCe h2 34 115 = s := L2'.1.2.1
  have basesStart : R_laysBases 27 115 h2 = if s = 1 then R_laysBases_25 FU 27 115 1035 n 2 h2 else R_laysBases_140 FU 27 115 1035 n 1035 h2 := by
    unfold R_laysBases
    refine gB H2.t27 ?_
    rw [H2.p27_8]
    refine gB ⟨H2.t33, by omega, by rw [H2.l33]; omega⟩ ?_
    refine gB H2.t27 ?_
    rw [H2.p27_9]
    refine gB ⟨H2.t34, by omega, by rw [H2.l34]; omega⟩ ?_
    rw [c33, c34, w32_e (by omega)]
    rfl
  have st2 : ∀ {r}, ((R_laysBases 27 115 h2).bind fun u6 =>
        if u6.1 = 0 then
          some (0, u6.2)
        else
          if decide (s = 3 ∨ s = 4) = false then
            some (1, u6.2)
          else
            (gd (hTy u6.2 27 = 10) 0).bind fun _ =>
            (R_laysPair 27 115 u6.2).bind fun u8 =>
            if u8.1 = 0 then
              some (0, u8.2)
            else
              some (1, u8.2)) = r → R_works 27 n s h = r := by
    rintro r rfl
    refine st (ifF p0 (ifF s0 (ifF two ?_)))
    refine cB e2 ?_
    refine gB H2.t27 ?_
    congr 1
    funext u6
    congr 1
    refine cB s_RhasPair ?_
    cases decide (s = 3 ∨ s = 4) <;> rfl
  have pairs : ∀ (h3 : AH) (D' : List RW), Fr VK h h3 → Sh h3 → LM h3 115 ((n, s, 0, 0), D', U.map (rD 0)) → ∃ h', R_laysPair 27 115 h3 = some (ob (pqS n (U.map (rD 0)) 99 1), h') ∧ Fr VK h h' ∧ ∀ v, pqS n (U.map (rD 0)) 99 1 = some v → LM h' 115 ((n, s, v.1, v.2), D', U.map (rD 0)) := by
    intro h3 D' V3 H3 L3
    obtain ⟨h', e', F', L'⟩ := lp_out (l := ((n, s, 0, 0), D', U.map (rD 0))) hn qU 99 FU 1 h3 (by omega) (by omega) (fu_big (by omega)) H3 L3
    exact ⟨h', e', V3.tr (F'.mo fun b j z => z.elim Or.inl fun y => Or.inr (Or.inl y)), L'⟩
  by_cases s1 : s = 1
  · subst s1
    have hne : D.map (rD 2) ≠ [] := by
      rw [dall rfl]
      intro z
      exact lo_ne nb (List.map_eq_nil_iff.mp z)
    obtain ⟨h3, e3, F3, L3⟩ := lb_one H2 L2' hn qD hne 998 FU 2 (by omega) (by omega) (fu_big (by omega))
    have V3 : Fr VK h h3 := V2.tr (F3.mo fun b j z => Or.inl z)
    have bse : fstB (fun a => decide (dfS n ((D.map (rD 2)).map (sbR a)) = 0)) 998 2 = fbS n (D.map (rD 0)) := by
      rw [fb_eq]
      simp only [sb_rD]
    unfold seS
    rw [if_pos rfl]
    rw [show (((n, 1, 0, 0), D.map (rD 2), U.map (rD 0)) : LN).1.1 = n from rfl, show (((n, 1, 0, 0), D.map (rD 2), U.map (rD 0)) : LN).2.1 = D.map (rD 2) from rfl, bse] at e3 L3
    cases fb : fbS n (D.map (rD 0)) with
    | none =>
      rw [fb] at e3
      exact ⟨h3, st2 (cB (basesStart.trans ((if_pos rfl).trans e3)) (ifT rfl rfl)), V3, fun l hl => by cases hl⟩
    | some a =>
      rw [fb] at e3
      refine ⟨h3, st2 (cB (basesStart.trans ((if_pos rfl).trans e3)) (ifF one_ne (ifT rfl rfl))), V3, fun l hl => ?_⟩
      cases hl
      have := L3 a fb
      rw [sb_rD] at this
      show LM h3 115 ((n, 1, 0, 0), (D.map (rD 0)).map (sbR a), U.map (rD 0))
      rw [sb_rD]
      exact this
  · have dl9 : (D.map (rD 2)).length ≤ 9 := L2'.2.1.2.1
    obtain ⟨h3, e3, F3, L3⟩ := lb_each (h0 := h2) (l := ((n, s, 0, 0), D.map (rD 2), U.map (rD 0))) hn qD (D.map (rD 2)).length FU 0 h2 [] (by show 0 + (D.map (rD 2)).length = (D.map (rD 2)).length; omega) (fu_big (by omega)) rfl H2 Fr.rf L2'
    have V3 : Fr VK h h3 := V2.tr (F3.mo fun b j z => Or.inl z)
    have H3 := H2.fr F3 fun b j => MK.mut
    rw [List.drop_zero] at e3 L3
    have e3' : R_laysBases 27 115 h2 = some (ob (bsS n (D.map (rD 0))), h3) := by
      rw [basesStart, if_neg s1, ← bsS_base (b := 2)]
      exact e3
    have L3' : ∀ v, bsS n (D.map (rD 0)) = some v → LM h3 115 ((n, s, 0, 0), v, U.map (rD 0)) := fun v hv => L3 v (by
      show bsS n (D.map (rD 2)) = some v
      rw [bsS_base]; exact hv)
    unfold seS
    rw [if_neg s1]
    by_cases s2 : s = 2
    · rw [if_pos s2]
      cases bs : bsS n (D.map (rD 0)) with
      | none =>
        rw [bs] at e3'
        exact ⟨h3, st2 (cB e3' (ifT rfl rfl)), V3, fun l hl => by cases hl⟩
      | some v =>
        rw [bs] at e3'
        refine ⟨h3, st2 (cB e3' (ifF one_ne (ifT (decide_eq_false (by omega)) rfl))), V3, fun l hl => ?_⟩
        cases hl
        exact L3' v bs
    · rw [if_neg s2]
      have dec : ¬ decide (s = 3 ∨ s = 4) = false := by rw [decide_eq_true (by omega)]; decide
      by_cases s3 : s = 3
      · rw [if_pos s3]
        have dn := d0 s3
        have bs : bsS n (D.map (rD 0)) = some (D.map (rD 0)) := by rw [dn]; rfl
        rw [bs] at e3'
        obtain ⟨h4, e4, V4, L4⟩ := pairs h3 _ V3 H3 (L3' _ bs)
        cases pq : pqS n (U.map (rD 0)) 99 1 with
        | none =>
          rw [pq] at e4
          exact ⟨h4, st2 (cB e3' (ifF one_ne (ifF dec (gB H3.t27 (cB e4 (ifT rfl rfl)))))), V4, fun l hl => by cases hl⟩
        | some v =>
          rw [pq] at e4
          refine ⟨h4, st2 (cB e3' (ifF one_ne (ifF dec (gB H3.t27 (cB e4 (ifF one_ne rfl)))))), V4, fun l hl => ?_⟩
          cases hl
          exact L4 v pq
      · rw [if_neg s3]
        cases bs : bsS n (D.map (rD 0)) with
        | none =>
          rw [bs] at e3'
          exact ⟨h3, st2 (cB e3' (ifT rfl rfl)), V3, fun l hl => by cases hl⟩
        | some D' =>
          rw [bs] at e3'
          obtain ⟨h4, e4, V4, L4⟩ := pairs h3 _ V3 H3 (L3' _ bs)
          cases pq : pqS n (U.map (rD 0)) 99 1 with
          | none =>
            rw [pq] at e4
            refine ⟨h4, st2 (cB e3' (ifF one_ne (ifF dec (gB H3.t27 (cB e4 (ifT rfl rfl)))))), V4, fun l hl => ?_⟩
            simp only [pq] at hl
            cases hl
          | some v =>
            rw [pq] at e4
            refine ⟨h4, st2 (cB e3' (ifF one_ne (ifF dec (gB H3.t27 (cB e4 (ifF one_ne rfl)))))), V4, fun l hl => ?_⟩
            simp only [pq] at hl
            cases hl
            exact L4 v pq
