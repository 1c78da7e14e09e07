/-! the reference: right lines -/
theorem fo_6 {k : Nat} (hk : k ≤ 59) {l : LN} (ok : okL l) {h : AH} (H : Sh h) (L : LM h k l) (hs : 1 ≤ l.1.2.1) : ∀ (n f j : Nat), j + n = l.2.1.length → n < f → ∃ h', R_faultOf_198 f 27 k l.1.1 l.1.2.1 (9 * (k : Int)) (9 * (k : Int) + j) h = some (if d6 l.1.1 (l.2.1.drop j) then (if l.1.2.1 = 3 ∨ l.1.2.1 = 4 then upS l.1.1 l.1.2.2.1 l.1.2.2.2 l.2.2 else 0) else 6, h') ∧ Fr QK h h' := by
  obtain ⟨hn, k1, k2, hd, hu, -, -, hpq, -⟩ := ok
  have n2 := hn.2
  have n1 := hn.1
  have dl := L.2.1.2.1
  intro n
  induction n with
  | zero =>
    intro f j hj hf
    obtain ⟨f, rfl, -⟩ := fu_pos hf
    rw [dr_e (by omega)]
    by_cases s : l.1.2.1 = 3 ∨ l.1.2.1 = 4
    · have pq := hpq (by omega)
      obtain ⟨h1, e1, F1⟩ := s_wrongPair H (by omega) L hn pq.1 pq.2 fun r hr => by have := (hu r hr).1.1; omega
      refine ⟨h1, ?_, F1⟩
      unfold R_faultOf_198
      refine gB H.t27 ?_
      rw [H.p27_12]
      refine gB ⟨H.t37, by omega, by rw [H.l37]; omega⟩ ?_
      rw [L.2.1.1, w32_e (by omega)]
      refine ifF (by omega) ?_
      refine cB s_RhasPair ?_
      rw [decide_eq_true s]
      refine ifF (by decide) ?_
      refine gB H.t27 ?_
      rw [H.p27_10]
      refine gB ⟨H.t35, by omega, by rw [H.l35]; omega⟩ ?_
      refine gB H.t27 ?_
      rw [H.p27_11]
      refine gB ⟨H.t36, by omega, by rw [H.l36]; omega⟩ ?_
      refine gB H.t27 ?_
      rw [L.1.2.2.1, L.1.2.2.2]
      refine cB e1 ?_
      rw [if_pos s]; rfl
    · refine ⟨h, ?_, Fr.rf⟩
      unfold R_faultOf_198
      refine gB H.t27 ?_
      rw [H.p27_12]
      refine gB ⟨H.t37, by omega, by rw [H.l37]; omega⟩ ?_
      rw [L.2.1.1, w32_e (by omega)]
      refine ifF (by omega) ?_
      refine cB s_RhasPair ?_
      rw [decide_eq_false s]
      refine ifT rfl ?_
      rw [if_neg s]; rfl
  | succ n ih =>
    intro f j hj hf
    obtain ⟨f, rfl, hf⟩ := fu_pos hf
    have hj' : j < l.2.1.length := by omega
    have hr := hd _ (gt_mem hj')
    have b1 := hr.2.1
    have q1 := hr.1.1
    obtain ⟨h1, e1, F1⟩ := ih f (j + 1) (by omega) (by omega)
    have st : ∀ {r}, (if b2i (decide (gcS ((pwS (gt l.2.1 j).2.2 ((l.1.1 - 1) / (gt l.2.1 j).1) l.1.1 - 1) % l.1.1) l.1.1 = 1)) = 0 then some (6, h) else R_faultOf_198 f 27 k l.1.1 l.1.2.1 (9 * (k : Int)) (9 * (k : Int) + ((j + 1 : Nat) : Int)) h) = r → R_faultOf_198 (f + 1) 27 k l.1.1 l.1.2.1 (9 * (k : Int)) (9 * (k : Int) + j) h = r := by
      rintro r rfl
      conv => lhs; unfold R_faultOf_198
      refine gB H.t27 ?_
      rw [H.p27_12]
      refine gB ⟨H.t37, by omega, by rw [H.l37]; omega⟩ ?_
      rw [L.2.1.1, w32_e (z := 9 * (k : Int) + (l.2.1.length : Int)) (by omega)]
      refine ifT (by omega) ?_
      refine gB H.t27 ?_
      rw [H.p27_16]
      refine gB ⟨H.t41, by omega, by rw [H.l41]; omega⟩ ?_
      refine gB H.t27 ?_
      rw [H.p27_14]
      refine gB ⟨H.t39, by omega, by rw [H.l39]; omega⟩ ?_
      rw [L.2.1.2.2.2 j hj', (L.2.1.2.2.1 j hj').1]
      refine cB (s_isApartBy hn (by omega) (by omega)) ?_
      rw [w32_e (by omega), show 9 * (k : Int) + (j : Int) + 1 = 9 * (k : Int) + ((j + 1 : Nat) : Int) by omega]
    rw [gt_dr hj', d6_c]
    by_cases g : gcS ((pwS (gt l.2.1 j).2.2 ((l.1.1 - 1) / (gt l.2.1 j).1) l.1.1 - 1) % l.1.1) l.1.1 = 1
    · refine ⟨h1, st ?_, F1⟩
      rw [decide_eq_true g, Bool.true_and]
      exact ifF (by decide) e1
    · refine ⟨h, st ?_, Fr.rf⟩
      rw [decide_eq_false g]
      exact ifT rfl rfl
theorem fo_5 {k : Nat} (hk : k ≤ 59) {l : LN} (ok : okL l) {h : AH} (H : Sh h) (L : LM h k l) (hs : 1 ≤ l.1.2.1) : ∀ (n f j : Nat), j + n = l.2.1.length → n < f → ∃ h', R_faultOf_156 f 27 k l.1.1 l.1.2.1 (9 * (k : Int)) (9 * (k : Int) + j) h = some (if d5 l.1.1 (l.2.1.drop j) then (if d6 l.1.1 l.2.1 then (if l.1.2.1 = 3 ∨ l.1.2.1 = 4 then upS l.1.1 l.1.2.2.1 l.1.2.2.2 l.2.2 else 0) else 6) else 5, h') ∧ Fr QK h h' := by
  have ok0 := ok
  obtain ⟨hn, k1, k2, hd, hu, -, -, hpq, -⟩ := ok
  have n2 := hn.2
  have n1 := hn.1
  have dl := L.2.1.2.1
  intro n
  induction n with
  | zero =>
    intro f j hj hf
    obtain ⟨f, rfl, -⟩ := fu_pos hf
    rw [dr_e (by omega)]
    obtain ⟨h1, e1, F1⟩ := fo_6 hk ok0 H L hs l.2.1.length FU 0 (by omega) (fu_big (by omega))
    rw [show ((0 : Nat) : Int) = 0 from rfl, Int.add_zero, List.drop_zero] at e1
    refine ⟨h1, ?_, F1⟩
    unfold R_faultOf_156
    refine gB H.t27 ?_
    rw [H.p27_12]
    refine gB ⟨H.t37, by omega, by rw [H.l37]; omega⟩ ?_
    rw [L.2.1.1, w32_e (by omega)]
    refine ifF (by omega) ?_
    exact e1
  | succ n ih =>
    intro f j hj hf
    obtain ⟨f, rfl, hf⟩ := fu_pos hf
    have hj' : j < l.2.1.length := by omega
    have hr := hd _ (gt_mem hj')
    have b1 := hr.2.1
    obtain ⟨h1, e1, F1⟩ := ih f (j + 1) (by omega) (by omega)
    have st : ∀ {r}, (if b2i (decide (pwS (gt l.2.1 j).2.2 (l.1.1 - 1) l.1.1 = 1)) = 0 then some (5, h) else R_faultOf_156 f 27 k l.1.1 l.1.2.1 (9 * (k : Int)) (9 * (k : Int) + ((j + 1 : Nat) : Int)) h) = r → R_faultOf_156 (f + 1) 27 k l.1.1 l.1.2.1 (9 * (k : Int)) (9 * (k : Int) + j) h = r := by
      rintro r rfl
      conv => lhs; unfold R_faultOf_156
      refine gB H.t27 ?_
      rw [H.p27_12]
      refine gB ⟨H.t37, by omega, by rw [H.l37]; omega⟩ ?_
      rw [L.2.1.1, w32_e (z := 9 * (k : Int) + (l.2.1.length : Int)) (by omega)]
      refine ifT (by omega) ?_
      refine gB H.t27 ?_
      rw [H.p27_16]
      refine gB ⟨H.t41, by omega, by rw [H.l41]; omega⟩ ?_
      rw [L.2.1.2.2.2 j hj']
      refine cB (s_isOneBy hn (by omega)) ?_
      rw [w32_e (by omega), show 9 * (k : Int) + (j : Int) + 1 = 9 * (k : Int) + ((j + 1 : Nat) : Int) by omega]
    rw [gt_dr hj', d5_c]
    by_cases g : pwS (gt l.2.1 j).2.2 (l.1.1 - 1) l.1.1 = 1
    · refine ⟨h1, st ?_, F1⟩
      rw [decide_eq_true g, Bool.true_and]
      exact ifF (by decide) e1
    · refine ⟨h, st ?_, Fr.rf⟩
      rw [decide_eq_false g]
      exact ifT rfl rfl
/-- the lines of the reference -/
def MD (h : AH) (ls : List LN) : Prop := hCe h 27 7 = (ls.length : Int) ∧ ls.length ≤ 60 ∧ ∀ i : Nat, i < ls.length → LM h i (gl ls i) ∧ okL (gl ls i)
theorem MD.of {h h' : AH} {ls : List LN} (M : MD h ls) (c7 : hCe h' 27 7 = hCe h 27 7) (c : ∀ b j, 33 ≤ b → b ≤ 43 → hCe h' b j = hCe h b j) : MD h' ls := ⟨c7.trans M.1, M.2.1, fun i hi => ⟨(M.2.2 i hi).1.of fun b j z => c b j (by unfold MK at z; omega) (by unfold MK at z; omega), (M.2.2 i hi).2⟩⟩
theorem MD.fr {P : Int → Int → Prop} {h h' : AH} {ls : List LN} (M : MD h ls) (F : Fr P h h') (q7 : ¬ P 27 7) (q : ∀ b j, 33 ≤ b → b ≤ 43 → ¬ P b j) : MD h' ls := M.of (F.2 _ _ q7) fun b j x y => F.2 _ _ (q b j x y)
theorem MD.num {h : AH} {ls : List LN} (M : MD h ls) {i : Nat} (hi : i < ls.length) : hCe h 33 (i : Int) = (gl ls i).1.1 := (M.2.2 i hi).1.1.1
theorem RR_q {h h' : AH} (c : ∀ j, hCe h' 44 j = hCe h 44 j) : RR h' = RR h := by
  funext j
  unfold RR
  rw [c]
theorem prS_u {n : Int} (hn : okN n) : R_isPrime n = some (prS n) := s_RisPrime2 (by have := hn.2; omega)
theorem pf_c (n s f g : Int) : pfS n s f g = 0 ∨ pfS n s f g = 3 ∨ pfS n s f g = 4 := by
  unfold pfS
  repeat' split
  all_goals simp
theorem s_RfaultOf {h : AH} (H : Sh h) {ls : List LN} (M : MD h ls) {k : Nat} (hk : k < ls.length) (hR : ∀ j, j < k → RR h j = rtS ls j) : ∃ h', R_faultOf 27 k h = some (faT ls k, h') ∧ Fr QK h h' := by
  have h60 := M.2.1
  obtain ⟨L, ok⟩ := M.2.2 k hk
  have ok0 := ok
  obtain ⟨hn, k1, k2, hd, hu, hdz, huz, hpq, -⟩ := ok
  have n2 := hn.2
  have n1 := hn.1
  have dl := L.2.1.2.1
  have ul := L.2.2.2.1
  have fe : faT ls k = if f1S (gl ls k) = true then 1 else if pB (rpP (gl ls k).2.1) = 1 ∨ pB (rpP (gl ls k).2.2) = 1 ∨ stS ls (rtS ls) k = false then 2 else laS (gl ls k) := rfl
  have hnum : ∀ j, j < k → hCe h 33 (j : Int) = (gl ls j).1.1 := fun j hj => M.num (by omega)
  have rr : ∀ l, sdL ls (RR h) k l = sdL ls (rtS ls) k l := fun l => sdL_g fun j hj => ⟨hR j hj, rfl⟩
  have se : stS ls (rtS ls) k = (sdL ls (rtS ls) k (gl ls k).2.1 && sdL ls (rtS ls) k (gl ls k).2.2) := by
    unfold stS rows sdL
    exact List.all_append
  have hdr : ∀ r ∈ (gl ls k).2.1, okR r := fun r hr => (hd r hr).1
  have hur : ∀ r ∈ (gl ls k).2.2, okR r := fun r hr => (hu r hr).1
  have st0 : ∀ {r : Option (Int × AH)}, (if (gl ls k).1.2.1 = 0 then
    if (gl ls k).1.1 < (100 : Int) then
      if prS (gl ls k).1.1 = 0 then
        some (1, h)
      else
        some (0, h)
    else
      some (1, h)
  else
    if (gl ls k).1.1 % 2 = 0 then
      some (1, h)
    else
      if pB (rpP (gl ls k).2.1) = 0 then
        if pB (rpP (gl ls k).2.2) = 0 then
          if b2i (sdL ls (rtS ls) k (gl ls k).2.1) = 0 then
            some (2, h)
          else
            if b2i (sdL ls (rtS ls) k (gl ls k).2.2) = 0 then
              some (2, h)
            else
              (R_isFit 27 k h).bind fun u23 =>
              if u23 = 0 then
                some (3, h)
              else
                (R_isEnough 27 k h).bind fun u24 =>
                if u24 = 0 then
                  some (4, h)
                else
                  R_faultOf_156 FU 27 k (gl ls k).1.1 (gl ls k).1.2.1 (9 * (k : Int)) (9 * (k : Int)) h
        else
          some (2, h)
      else
        some (2, h)) = r → R_faultOf 27 k h = r := by
    rintro r rfl
    unfold R_faultOf
    refine gB H.t27 ?_
    rw [H.p27_8]
    refine gB ⟨H.t33, by omega, by rw [H.l33]; omega⟩ ?_
    refine gB H.t27 ?_
    rw [H.p27_9]
    refine gB ⟨H.t34, by omega, by rw [H.l34]; omega⟩ ?_
    rw [L.1.1, L.1.2.1]
    congr 1
    · congr 1
      exact cB (prS_u hn) rfl
    · rw [tm_e (by omega)]
      refine gB (by omega) ?_
      congr 1
      refine gB H.t27 ?_
      refine gB H.t27 ?_
      rw [H.p27_12, H.p27_14, w32_e (by omega)]
      refine gB ⟨H.t37, by omega, by rw [H.l37]; omega⟩ ?_
      rw [L.2.1.1]
      refine cB (s_areTwice L.2.1.2.2.1.q H.t39 (by rw [H.l39]; omega) (by omega) dl) ?_
      congr 1
      refine gB H.t27 ?_
      refine gB H.t27 ?_
      rw [H.p27_13, H.p27_17]
      refine gB ⟨H.t38, by omega, by rw [H.l38]; omega⟩ ?_
      rw [L.2.2.1]
      refine cB (s_areTwice L.2.2.2.2.q H.t42 (by rw [H.l42]; omega) (by omega) ul) ?_
      congr 1
      refine gB H.t27 ?_
      refine gB H.t27 ?_
      refine gB ⟨H.t37, by omega, by rw [H.l37]; omega⟩ ?_
      refine gB H.t27 ?_
      rw [L.2.1.1, ← rr, ← rr]
      refine cB (s_hasAll H (by omega) hnum L.2.1.2.2.1.q H.t39 (by rw [H.l39]; omega) (by omega) dl) ?_
      congr 1
      refine gB H.t27 ?_
      refine gB H.t27 ?_
      refine gB ⟨H.t38, by omega, by rw [H.l38]; omega⟩ ?_
      rw [L.2.2.1]
      refine gB H.t27 ?_
      refine cB (s_hasAll H (by omega) hnum L.2.2.2.2.q H.t42 (by rw [H.l42]; omega) (by omega) ul) ?_
      congr 1
      refine gB H.t27 ?_
      congr 1
      funext u23
      congr 1
      exact gB H.t27 rfl
  have same : Fr QK h h := Fr.rf
  by_cases s0 : (gl ls k).1.2.1 = 0
  · have d0 := hdz (Or.inl s0)
    have u0 := huz (by omega)
    have np : ∀ l : List RW, l = [] → ¬ pB (rpP l) = 1 := fun l e z => by
      subst e
      obtain ⟨i, j, a, b, -⟩ := pB_1.mp z
      exact absurd b (Nat.not_lt_zero i)
    have f1e : f1S (gl ls k) = !(decide ((gl ls k).1.1 < 100) && decide (prS (gl ls k).1.1 = 1)) := by unfold f1S; rw [if_pos s0]
    have la0 : laS (gl ls k) = 0 := by unfold laS; rw [if_pos s0]
    have st1 : stS ls (rtS ls) k = true := by rw [se, d0, u0]; rfl
    have r0 : f1S (gl ls k) = false → faT ls k = 0 := fun z => by
      rw [fe, z, if_neg (by decide), if_neg, la0]
      rintro (y | y | y)
      · exact np _ d0 y
      · exact np _ u0 y
      · rw [st1] at y; exact absurd y (by decide)
    by_cases q : (gl ls k).1.1 < 100
    · rcases prS_01 (gl ls k).1.1 with e | e
      · refine ⟨h, st0 (ifT s0 (ifT q (ifT e ?_))), same⟩
        rw [fe, f1e, e, decide_eq_true q]; rfl
      · refine ⟨h, st0 (ifT s0 (ifT q (ifF (by omega) ?_))), same⟩
        rw [r0 (by rw [f1e, e, decide_eq_true q]; rfl)]
    · refine ⟨h, st0 (ifT s0 (ifF q ?_)), same⟩
      rw [fe, f1e, decide_eq_false q]; rfl
  · have hs : 1 ≤ (gl ls k).1.2.1 := by omega
    have f1e : f1S (gl ls k) = decide ((gl ls k).1.1 % 2 = 0) := by unfold f1S; rw [if_neg s0]
    by_cases ev : (gl ls k).1.1 % 2 = 0
    · refine ⟨h, st0 (ifF s0 (ifT ev ?_)), same⟩
      rw [fe, f1e, decide_eq_true ev]; rfl
    · have fe1 : faT ls k = if pB (rpP (gl ls k).2.1) = 1 ∨ pB (rpP (gl ls k).2.2) = 1 ∨ stS ls (rtS ls) k = false then 2 else laS (gl ls k) := by rw [fe, f1e, decide_eq_false ev, if_neg (by decide)]
      by_cases d : rpP (gl ls k).2.1
      · refine ⟨h, st0 (ifF s0 (ifF ev (ifF (by rw [pB_t d]; omega) ?_))), same⟩
        rw [fe1, if_pos (Or.inl (pB_t d))]
      · by_cases u : rpP (gl ls k).2.2
        · refine ⟨h, st0 (ifF s0 (ifF ev (ifT (pB_f d) (ifF (by rw [pB_t u]; omega) ?_)))), same⟩
          rw [fe1, if_pos (Or.inr (Or.inl (pB_t u)))]
        · cases a1 : sdL ls (rtS ls) k (gl ls k).2.1
          · refine ⟨h, st0 (ifF s0 (ifF ev (ifT (pB_f d) (ifT (pB_f u) (ifT (by rw [a1]; rfl) ?_))))), same⟩
            rw [fe1, if_pos (Or.inr (Or.inr (by rw [se, a1]; rfl)))]
          · cases a2 : sdL ls (rtS ls) k (gl ls k).2.2
            · refine ⟨h, st0 (ifF s0 (ifF ev (ifT (pB_f d) (ifT (pB_f u) (ifF (by rw [a1]; decide) (ifT (by rw [a2]; rfl) ?_)))))), same⟩
              rw [fe1, if_pos (Or.inr (Or.inr (by rw [se, a1, a2]; rfl)))]
            · have fe2 : faT ls k = laS (gl ls k) := by
                rw [fe1, if_neg]
                rintro (y | y | y)
                · exact d (pB_1.mp y)
                · exact u (pB_1.mp y)
                · rw [se, a1, a2] at y; exact absurd y (by decide)
              have go : ∀ {r h'}, ((R_isFit 27 k h).bind fun u23 =>
                  if u23 = 0 then
                    some (3, h)
                  else
                    (R_isEnough 27 k h).bind fun u24 =>
                    if u24 = 0 then
                      some (4, h)
                    else
                      R_faultOf_156 FU 27 k (gl ls k).1.1 (gl ls k).1.2.1 (9 * (k : Int)) (9 * (k : Int)) h) = some (r, h') → R_faultOf 27 k h = some (r, h') := fun e => st0 (ifF s0 (ifF ev (ifT (pB_f d) (ifT (pB_f u) (ifF (by rw [a1]; decide) (ifF (by rw [a2]; decide) e))))))
              have fit := s_isFit H (by omega) L hn hdr hur ⟨hs, k2⟩
              rw [fe2]
              unfold laS
              rw [if_neg s0]
              by_cases p3 : pfS (gl ls k).1.1 (gl ls k).1.2.1 (prF (gl ls k).2.1) (prF (gl ls k).2.2) = 3
              · refine ⟨h, go (cB fit (ifT (by rw [decide_eq_false (fun z => z p3)]; rfl) ?_)), same⟩
                rw [p3, if_neg (by decide)]
              · have en := s_RisEnough H (by omega) L hn hdr hur ⟨hs, k2⟩ p3
                by_cases p0 : pfS (gl ls k).1.1 (gl ls k).1.2.1 (prF (gl ls k).2.1) (prF (gl ls k).2.2) = 0
                · obtain ⟨h1, e1, F1⟩ := fo_5 (by omega) ok0 H L hs (gl ls k).2.1.length FU 0 (by omega) (fu_big (by omega))
                  rw [show ((0 : Nat) : Int) = 0 from rfl, Int.add_zero, List.drop_zero] at e1
                  refine ⟨h1, go (cB fit (ifF (by rw [decide_eq_true p3]; decide) (cB en (ifF (by rw [decide_eq_true p0]; decide) ?_)))), F1⟩
                  rw [e1, if_pos p0]
                  unfold dfS
                  cases d5 (gl ls k).1.1 (gl ls k).2.1 <;> cases d6 (gl ls k).1.1 (gl ls k).2.1 <;> rfl
                · refine ⟨h, go (cB fit (ifF (by rw [decide_eq_true p3]; decide) (cB en (ifT (by rw [decide_eq_false p0]; rfl) ?_)))), same⟩
                  rw [if_neg p0]
                  have : pfS (gl ls k).1.1 (gl ls k).1.2.1 (prF (gl ls k).2.1) (prF (gl ls k).2.2) = 4 := by
                    rcases pf_c (gl ls k).1.1 (gl ls k).1.2.1 (prF (gl ls k).2.1) (prF (gl ls k).2.2) with z | z | z
                    · exact absurd z p0
                    · exact absurd z p3
                    · exact z
                  rw [this]
/-- what laying the right lines changes -/
def WK (b _j : Int) : Prop := b = 28 ∨ b = 29 ∨ b = 30 ∨ b = 44 ∨ b = 45
theorem WK.mut {b j : Int} (h : WK b j) : Mut b j := mutM (by unfold WK at h; unfold MutM; omega)
/-- what is laid of the first k lines -/
def LR (h : AH) (ls : List LN) (k : Nat) : Prop := ∀ i : Nat, i < k → hCe h 44 (i : Int) = b2i (rtS ls i) ∧ hCe h 45 (i : Int) = faT ls i
theorem LR.rr {h : AH} {ls : List LN} {k : Nat} (R : LR h ls k) : ∀ j, j < k → RR h j = rtS ls j := fun j hj => by
  unfold RR
  rw [(R j hj).1]
  cases rtS ls j <;> rfl
theorem lr_loop {ls : List LN} : ∀ (n f i : Nat) (h : AH), i + n = ls.length → n < f → Sh h → MD h ls → LR h ls i → ∃ h', R_laysRight_2 f 27 i h = some h' ∧ Fr WK h h' ∧ LR h' ls ls.length := by
  intro n
  induction n with
  | zero =>
    intro f i h hi hf H M R
    obtain ⟨f, rfl, -⟩ := fu_pos hf
    have : i = ls.length := by omega
    subst this
    refine ⟨h, ?_, Fr.rf, R⟩
    unfold R_laysRight_2
    refine gB H.t27 ?_
    rw [M.1]
    exact ifF (by omega) rfl
  | succ n ih =>
    intro f i h hi hf H M R
    obtain ⟨f, rfl, hf⟩ := fu_pos hf
    have hi' : i < ls.length := by omega
    have h60 := M.2.1
    obtain ⟨h1, e1, F1⟩ := s_RfaultOf H M hi' R.rr
    have H1 := H.fr F1 fun b j => QK.mut
    let h2 := hSet (hSet h1 45 i (faT ls i)) 44 i (b2i (rtS ls i))
    have F2 : Fr WK h h2 := ((F1.mo fun b j z => by unfold QK at z; unfold WK; omega).setT (by unfold WK; omega)).setT (by unfold WK; omega)
    have H2 := H.fr F2 fun b j => WK.mut
    have M2 : MD h2 ls := M.fr F2 (by unfold WK; omega) fun b j x y => by unfold WK; omega
    have R2 : LR h2 ls (i + 1) := fun j hj => by
      by_cases q : j = i
      · subst q
        exact ⟨cS _ _ _ _, (cN (by omega)).trans (cS _ _ _ _)⟩
      · have := R j (by omega)
        refine ⟨(cN (by omega)).trans ((cN (by omega)).trans ((F1.2 _ _ (by unfold QK; omega)).trans this.1)), (cN (by omega)).trans ((cN (by omega)).trans ((F1.2 _ _ (by unfold QK; omega)).trans this.2))⟩
    obtain ⟨h3, e3, F3, R3⟩ := ih f (i + 1) h2 (by omega) (by omega) H2 M2 R2
    refine ⟨h3, ?_, F2.tr F3, R3⟩
    unfold R_laysRight_2
    refine gB H.t27 ?_
    rw [M.1]
    refine ifT (by omega) ?_
    refine gB H.t27 ?_
    rw [H.p27_20]
    refine gB H.t27 ?_
    refine cB e1 ?_
    dsimp only
    refine gB ⟨H1.t45, by omega, by rw [H1.l45]; omega⟩ ?_
    refine gB H1.t27 ?_
    rw [cN (b := 27) (j := 19) (by omega), H1.p27_19]
    refine gB H1.t27 ?_
    rw [cN (b := 27) (j := 20) (by omega), H1.p27_20]
    refine gB ⟨H1.t45, by omega, by show _ < hLn h1 45; rw [H1.l45]; omega⟩ ?_
    rw [cS, w32_e (by omega)]
    have b : h2 = hSet (hSet h1 45 i (faT ls i)) 44 i (b2i (rtS ls i)) := rfl
    by_cases q : faT ls i = 0
    · refine ifT q ?_
      refine gB ⟨Or.inr ⟨H1.t44, by omega, by omega⟩, by omega, by show _ < hLn h1 44; rw [H1.l44]; omega⟩ ?_
      rw [rt_1.mpr q] at b
      rw [b] at e3
      exact e3
    · refine ifF q ?_
      refine gB ⟨Or.inr ⟨H1.t44, by omega, by omega⟩, by omega, by show _ < hLn h1 44; rw [H1.l44]; omega⟩ ?_
      have : rtS ls i = false := by rw [rt_fa, decide_eq_false q]
      rw [this] at b
      rw [b] at e3
      exact e3
theorem s_laysRight {h : AH} (H : Sh h) {ls : List LN} (M : MD h ls) : ∃ h', R_laysRight 27 h = some h' ∧ Fr WK h h' ∧ LR h' ls ls.length := by
  have h60 := M.2.1
  exact lr_loop ls.length FU 0 h (by omega) (fu_big (by omega)) H M fun i hi => absurd hi (Nat.not_lt_zero i)
