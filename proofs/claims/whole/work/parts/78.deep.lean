/-! deep, falls -/
def DK (b _j : Int) : Prop := b = 44 ∨ b = 51
theorem DK.q {b j : Int} (z : DK b j) : Mut b j ∧ (b = 27 → j ≠ 7 ∧ j ≠ 24) ∧ (b < 33 ∨ 43 < b) ∧ b ≠ 48 := ⟨mutM (by unfold DK at z; unfold MutM; omega), by unfold DK at z; omega⟩
theorem DK.mz {b j : Int} (z : DK b j) : MZ b j := ⟨z.q.1, by unfold DK at z; omega⟩
/-- a question about a right line, whose answer is worked out in arrays -/
theorem q_ask2 {X : Int → AH → Option Int} {R : Int → AH → Option (Int × AH)} {i : Int} {Bx : Nat → AH → Option Int} {Br : Nat → AH → Option (Int × AH)} (v : List LN → Nat → Int)
    (xd : ∀ h, Sh h → ∀ k : Nat, ∀ {r}, ((Ledger_has 1 (k : Int) h).bind fun u2 => if u2 = 0 then some (-1) else (Ledger_isRight 1 k h).bind fun u4 => if u4 = 0 then some (-2) else Bx k h) = r → X k h = r)
    (x0 : ∀ h hw dw ls, FUL h hw dw ls → ¬ (0 ≤ i ∧ i < ls.length) → X i h = some (-1))
    (rd : ∀ h, Sh h → ∀ k : Nat, ∀ {r}, ((R_isLine 27 (k : Int) h).bind fun u1 => if u1 = 0 then some (-1, h) else (R_isRightLine 27 k h).bind fun u2 => if u2.1 = 0 then some (-2, u2.2) else Br k u2.2) = r → R k h = r)
    (r0 : ∀ h ls tp, MS h ls tp → ¬ (0 ≤ i ∧ i < ls.length) → R i h = some (-1, h))
    (cx : ∀ h hw dw ls (k : Nat), FUL h hw dw ls → k < ls.length → rtS ls k = true → Bx k h = some (v ls k))
    (cr : ∀ h ls tp (k : Nat), MS h ls tp → LR h ls ls.length → k < ls.length → rtS ls k = true → ∃ h', Br k h = some (v ls k, h') ∧ Fr DK h h') : sim (fun h => lft (X i h) h) (fun h => R i h) := mk_sim fun ls tp ok => by
  by_cases q : 0 ≤ i ∧ i < ls.length
  · obtain ⟨k, rfl⟩ := Int.eq_ofNat_of_zero_le q.1
    have hk : k < ls.length := by omega
    refine ⟨if rtS ls k = true then v ls k else -2, ls, tp, xC.keep fun h hw dw U t => lft_s ?_, fun h m => ?_⟩
    · refine xd h U.1.1 k (has_if U.1 ?_)
      rw [if_pos q]
      refine rt_if U hk ?_
      by_cases z : rtS ls k = true
      · rw [if_pos z, if_pos z]; exact cx h hw dw ls k U hk z
      · rw [if_neg z, if_neg z]
    · obtain ⟨h', e, F', L⟩ := s_laysRight m.1 m.2.1
      have m' := m.frQ F' fun b j => WK.q
      by_cases z : rtS ls k = true
      · obtain ⟨h2, e2, F2⟩ := cr h' ls tp k m' L hk z
        refine ⟨h2, ?_, m'.frQ F2 fun b j => DK.q, (F'.mo fun b j => WK.mz).tr (F2.mo fun b j => DK.mz)⟩
        refine rd h m.1 k (rhas_if m ?_)
        rw [if_pos q]
        refine rrt_if (A := fun h => some (-2, h)) (B := fun h => Br k h) m e m' L hk ?_
        rw [if_pos z, if_pos z]
        exact e2
      · refine ⟨h', ?_, m', F'.mo fun b j => WK.mz⟩
        refine rd h m.1 k (rhas_if m ?_)
        rw [if_pos q]
        refine rrt_if (A := fun h => some (-2, h)) (B := fun h => Br k h) m e m' L hk ?_
        rw [if_neg z, if_neg z]
  · exact ⟨-1, ls, tp, xC.keep fun h hw dw U t => lft_s (x0 h hw dw ls U q), rC.keep fun h m => r0 h ls tp m q⟩
/-! ### deep -/
/-- c is the depth above what P holds below t -/
def mxD (ls : List LN) (P t : Nat) (c : Int) : Prop := 0 ≤ c ∧ c ≤ 60 ∧ (∀ k, k < t → P.testBit k = true → deS ls k + 1 ≤ c) ∧ (c = 0 ∨ ∃ k, k < t ∧ P.testBit k = true ∧ c = deS ls k + 1)
theorem fdD_ch {f : Int → Int} {a : RW → Int} : ∀ {l : List RW} {d : Int}, d ≤ fdD f a d l ∧ (∀ r ∈ l, f (a r) + 1 ≤ fdD f a d l) ∧ (fdD f a d l = d ∨ ∃ r ∈ l, fdD f a d l = f (a r) + 1)
  | [], d => ⟨Int.le_refl _, fun r hr => absurd hr List.not_mem_nil, Or.inl rfl⟩
  | r :: l, d => by
    rw [fdD_k]
    obtain ⟨h1, h2, h3⟩ := fdD_ch (f := f) (a := a) (l := l) (d := if d < f (a r) + 1 then f (a r) + 1 else d)
    generalize fdD f a (if d < f (a r) + 1 then f (a r) + 1 else d) l = D at *
    refine ⟨by split at h1 <;> omega, fun s hs => ?_, ?_⟩
    · rcases List.mem_cons.mp hs with rfl | hs
      · split at h1 <;> omega
      · exact h2 s hs
    · rcases h3 with h3 | ⟨s, hs, h3⟩
      · by_cases q : d < f (a r) + 1
        · rw [if_pos q] at h3; exact Or.inr ⟨r, List.mem_cons_self, h3⟩
        · rw [if_neg q] at h3; exact Or.inl h3
      · exact Or.inr ⟨s, List.mem_cons_of_mem r hs, h3⟩
theorem mx_de {ls : List LN} {j : Nat} (rj : rtS ls j = true) {c : Int} (M : mxD ls (prW ls j) j c) : c = deS ls j := by
  obtain ⟨c0, -, c1, c2⟩ := M
  rw [de_e, if_pos rj]
  obtain ⟨d0, d1, d2⟩ := fdD_ch (f := fun a => deS ls a.toNat) (a := fun r => ahS ls (rtS ls) j r.1) (l := rows (gl ls j)) (d := 0)
  generalize fdD (fun a => deS ls a.toNat) (fun r => ahS ls (rtS ls) j r.1) 0 (rows (gl ls j)) = D at *
  have le : c ≤ D := by
    rcases c2 with h | ⟨k, hk, b, h⟩
    · omega
    · obtain ⟨r, hr, e⟩ := pr_bit.mp b
      have := d1 r hr
      rw [e] at this
      omega
  have ge : D ≤ c := by
    rcases d2 with h | ⟨r, hr, h⟩
    · omega
    · obtain ⟨a, ea, al, -⟩ := rts_row rj r hr
      have b : (prW ls j).testBit a = true := pr_bit.mpr ⟨r, hr, by rw [ea, Int.toNat_natCast]⟩
      have := c1 a al b
      rw [ea, Int.toNat_natCast] at h
      omega
  omega
section DEEP
variable {ls : List LN} {tp : List Int}
theorem dp_in {i j : Nat} (l60 : j < 60) {P : Nat} (hP : P < 2 ^ j) {k9 : Int → Int → Int → Int → AH → Option (Int × AH)} {w : Int} : ∀ (n f t : Nat) (h : AH), t + n = j → n < f → Sh h → (∀ k : Nat, k < j → P.testBit k = true → hCe h 51 k = deS ls k) → mxD ls P t (hCe h 51 j) → ∃ h', R_deepOf_46 k9 f 27 i w j P t h = k9 27 i w ((j : Int) + 1) h' ∧ Fr (fun b x => b = 51 ∧ x = (j : Int)) h h' ∧ mxD ls P j (hCe h' 51 j) := by
  intro n
  induction n with
  | zero =>
    intro f t h ht hf H c M
    obtain ⟨f, rfl, -⟩ := fu_pos hf
    have : t = j := by omega
    subst this
    refine ⟨h, ?_, Fr.rf, M⟩
    unfold R_deepOf_46
    rw [w32_e (z := (t : Int) + 1) (by omega)]
    exact ifF (by omega) rfl
  | succ n ih =>
    intro f t h ht hf H c M
    obtain ⟨f, rfl, hf⟩ := fu_pos hf
    have P63 : P < 9223372036854775808 := b63 hP (by omega)
    obtain ⟨m0, m1, m2, m3⟩ := id M
    cases b : P.testBit t with
    | false =>
      obtain ⟨h', e', F', M'⟩ := ih f (t + 1) h (by omega) (by omega) H c ⟨m0, m1, fun k hk bk => by
        by_cases q : k = t
        · subst q; rw [b] at bk; cases bk
        · exact m2 k (by omega) bk, m3.imp id fun ⟨k, hk, x⟩ => ⟨k, by omega, x⟩⟩
      refine ⟨h', ?_, F', M'⟩
      rw [← e']
      conv => lhs; unfold R_deepOf_46
      refine ifT (by omega) ?_
      refine cB (Rhas_n P63 (by omega)) ?_
      rw [b, w32_e (z := (t : Int) + 1) (by omega)]
      exact ifT rfl rfl
    | true =>
      have ct := c t (by omega) b
      have db := de_bd ls t
      have st : ∀ {r}, (if hCe h 51 j < deS ls t + 1 then R_deepOf_46 k9 f 27 i w j P ((t + 1 : Nat) : Int) (hSet h 51 j (deS ls t + 1)) else R_deepOf_46 k9 f 27 i w j P ((t + 1 : Nat) : Int) h) = r → R_deepOf_46 k9 (f + 1) 27 i w j P t h = r := by
        rintro r rfl
        conv => lhs; unfold R_deepOf_46
        refine ifT (by omega) ?_
        refine cB (Rhas_n P63 (by omega)) ?_
        rw [b]
        refine ifF one_ne ?_
        refine gB H.t27 ?_
        rw [H.p27_34]
        refine gB ⟨H.t51, by omega, by rw [H.l51]; omega⟩ ?_
        refine gB H.t27 ?_
        refine gB ⟨H.t51, by omega, by rw [H.l51]; omega⟩ ?_
        rw [ct, w32_e (z := deS ls t + 1) (by omega), w32_e (z := (t : Int) + 1) (by omega)]
        congr 1
        refine gB H.t27 ?_
        refine gB H.t27 ?_
        refine gB ⟨H.t51, by omega, by rw [H.l51]; omega⟩ ?_
        rw [ct, w32_e (z := deS ls t + 1) (by omega)]
        exact gB ⟨H.t51, by omega, by rw [H.l51]; omega⟩ rfl
      by_cases q : hCe h 51 j < deS ls t + 1
      · have F1 : Fr (fun b x => b = 51 ∧ x = (j : Int)) h (hSet h 51 j (deS ls t + 1)) := Fr.set ⟨rfl, rfl⟩
        obtain ⟨h', e', F', M'⟩ := ih f (t + 1) (hSet h 51 j (deS ls t + 1)) (by omega) (by omega) (H.fr F1 fun b x z => mutM (by unfold MutM; omega)) (fun k hk bk => by rw [cN (by omega)]; exact c k hk bk) (by
          rw [cS]
          refine ⟨by omega, by omega, fun k hk bk => ?_, Or.inr ⟨t, by omega, b, rfl⟩⟩
          by_cases z : k = t
          · subst z; omega
          · have := m2 k (by omega) bk; omega)
        exact ⟨h', st ((if_pos q).trans e'), F1.tr F', M'⟩
      · obtain ⟨h', e', F', M'⟩ := ih f (t + 1) h (by omega) (by omega) H c ⟨m0, m1, fun k hk bk => by
          by_cases z : k = t
          · subst z; omega
          · exact m2 k (by omega) bk, m3.imp id fun ⟨k, hk, x⟩ => ⟨k, by omega, x⟩⟩
        exact ⟨h', st ((if_neg q).trans e'), F', M'⟩
theorem dp_out {i : Nat} (hi : i < ls.length) (rt : rtS ls i = true) : ∀ (n f j : Nat) (h : AH), j + n = i + 1 → n < f → MS h ls tp → LR h ls ls.length → (∀ k : Nat, k < j → (reS ls i).testBit k = true → hCe h 51 k = deS ls k) → ∃ h', R_deepOf_9 f 27 i (reS ls i) j h = some (deS ls i, h') ∧ Fr DK h h' := by
  intro n
  induction n with
  | zero =>
    intro f j h hj hf m L c
    obtain ⟨f, rfl, -⟩ := fu_pos hf
    have H := m.1
    have l60 := m.2.1.2.1
    refine ⟨h, ?_, Fr.rf⟩
    unfold R_deepOf_9
    refine ifT (by omega) ?_
    refine gB H.t27 ?_
    rw [H.p27_34]
    refine gB ⟨H.t51, by omega, by rw [H.l51]; omega⟩ ?_
    rw [c i (by omega) re_self]
  | succ n ih =>
    intro f j h hj hf m L c
    obtain ⟨f, rfl, hf⟩ := fu_pos hf
    have H := m.1
    have l60 := m.2.1.2.1
    have r63 := b63 (re_bd ls i) (by omega)
    cases b : (reS ls i).testBit j with
    | false =>
      obtain ⟨h', e', F'⟩ := ih f (j + 1) h (by omega) (by omega) m L fun k hk bk => by
        by_cases q : k = j
        · subst q; rw [b] at bk; cases bk
        · exact c k (by omega) bk
      refine ⟨h', ?_, F'⟩
      rw [← e']
      conv => lhs; unfold R_deepOf_9
      refine ifF (by omega) ?_
      refine cB (Rhas_n r63 (by omega)) ?_
      rw [b, w32_e (z := (j : Int) + 1) (by omega)]
      exact ifT rfl rfl
    | true =>
      obtain ⟨rj, tj⟩ := re_tr rt j b
      have F1 : Fr (fun b x => b = 51 ∧ x = (j : Int)) h (hSet h 51 j 0) := Fr.set ⟨rfl, rfl⟩
      have dk : ∀ b x : Int, b = 51 ∧ x = (j : Int) → DK b x := fun b x z => Or.inr z.1
      have m1 := m.frQ F1 fun b x z => (dk b x z).q
      obtain ⟨h2, e2, F2, M2⟩ := dp_in (ls := ls) (i := i) (j := j) (by omega) (pr_lt rj) (k9 := fun a0 a1 a2 a3 h0 => R_deepOf_9 f a0 a1 a2 a3 h0) (w := (reS ls i : Int)) j FU 0 (hSet h 51 j 0) (by omega) (fu_big (by omega)) m1.1 (fun k hk bk => by
        rw [cN (by omega)]
        obtain ⟨r, hr, e⟩ := pr_bit.mp bk
        have := tj r hr
        rw [e] at this
        exact c k hk this) (by rw [cS]; exact ⟨by omega, by omega, fun k hk => absurd hk (Nat.not_lt_zero k), Or.inl rfl⟩)
      have m2 := m1.frQ F2 fun b x z => (dk b x z).q
      have dj := mx_de rj M2
      have far : ∀ x : Int, hCe h2 44 x = hCe h 44 x ∧ hCe h2 45 x = hCe h 45 x := fun x => ⟨(F2.2 _ _ (by omega)).trans (cN (by omega)), (F2.2 _ _ (by omega)).trans (cN (by omega))⟩
      obtain ⟨h3, e3, F3⟩ := ih f (j + 1) h2 (by omega) (by omega) m2 (fun k hk => by rw [(far _).1, (far _).2]; exact L k hk) fun k hk bk => by
        by_cases q : k = j
        · subst q; exact dj
        · rw [F2.2 _ _ (by omega), cN (by omega)]; exact c k (by omega) bk
      refine ⟨h3, ?_, ((F1.tr F2).mo dk).tr F3⟩
      unfold R_deepOf_9
      refine ifF (by omega) ?_
      refine cB (Rhas_n r63 (by omega)) ?_
      rw [b]
      refine ifF one_ne ?_
      refine gB H.t27 ?_
      refine cB (s_props m L (by omega) rj) ?_
      refine gB H.t27 ?_
      rw [H.p27_34]
      refine gB ⟨H.t51, by omega, by rw [H.l51]; omega⟩ ?_
      refine e2.trans ?_
      exact e3
end DEEP
theorem q_deep (i : Int) : sim (fun h => lft (X_deep 0 i h) h) (fun h => R_deep 27 i h) := by
  refine q_ask2 (X := fun i h => X_deep 0 i h) (R := fun i h => R_deep 27 i h) (Bx := fun k h => (gd (hTy h 0 = 9) 1).bind fun u5 => (gd (hTy h u5 = 3) (hCe h u5 3)).bind fun u6 => (gd (hTy h u6 = 21 ∧ 0 ≤ (k : Int) ∧ (k : Int) < hLn h u6) (hCe h u6 k)).bind fun u7 => some u7) (Br := fun k h => (gd (hTy h 27 = 10) 0).bind fun _ => (R_deepOf 27 k h).bind fun u3 => some (u3.1, u3.2)) (fun ls k => deS ls k) ?_ ?_ ?_ ?_ ?_ ?_
  · rintro h H k r rfl
    show X_deep 0 k h = _
    unfold X_deep
    refine gB H.t0 ?_
    rw [H.p0_0]
    refine gB H.t1 ?_
    congr 1
    funext u
    congr 1
    refine gB H.t0 ?_
    exact gB H.t1 rfl
  · intro h hw dw ls U q
    show X_deep 0 i h = _
    unfold X_deep
    refine gB U.1.1.t0 ?_
    rw [U.1.1.p0_0]
    refine gB U.1.1.t1 ?_
    refine has_if U.1 ?_
    rw [if_neg q]
  · rintro h H k r rfl
    show R_deep 27 k h = _
    unfold R_deep
    refine gB H.t27 ?_
    congr 1
    funext u
    congr 1
    exact gB H.t27 rfl
  · intro h ls tp m q
    show R_deep 27 i h = _
    unfold R_deep
    refine gB m.1.t27 ?_
    refine rhas_if m ?_
    rw [if_neg q]
  · intro h hw dw ls k U hk rt
    have H := U.1.1
    have l60 := U.1.len
    refine gB H.t0 ?_
    refine gB H.t1 ?_
    rw [H.p1_3]
    refine gB ⟨H.t5, by omega, by rw [H.l5]; omega⟩ ?_
    rw [(U.2.1 k hk).2.2]
  · intro h ls tp k m L hk rt
    have l60 := m.2.1.2.1
    obtain ⟨h', e', F'⟩ := dp_out hk rt (k + 1) FU 0 h (by omega) (fu_big (by omega)) m L fun k hk => absurd hk (Nat.not_lt_zero k)
    refine ⟨h', ?_, F'⟩
    refine gB m.1.t27 ?_
    have : R_deepOf 27 k h = some (deS ls k, h') := by
      unfold R_deepOf
      refine gB m.1.t27 ?_
      exact cB (s_restsOf m L hk rt) e'
    exact cB this rfl
