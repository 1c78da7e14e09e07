/-! count -/
def acS (g : Nat → Int → Int) : Nat → Nat → Int → Int
  | 0, _, a => a
  | n + 1, j, a => acS g n (j + 1) (g j a)
theorem ac_run {β : Type} {F : Nat → Int → Int → Option β} {g : Nat → Int → Int} {I : Nat → Int → Prop} {L : Nat} {out : Int → β} (hs : ∀ f (j : Nat) a, j < L → I j a → F (f + 1) a j = F f (g j a) ((j : Int) + 1) ∧ I (j + 1) (g j a)) (he : ∀ f a, F (f + 1) a L = some (out a)) : ∀ (n f j : Nat) (a : Int), j + n = L → n < f → I j a → F f a j = some (out (acS g n j a)) := by
  intro n
  induction n with
  | zero =>
    intro f j a hj hf _
    obtain ⟨f, rfl, -⟩ := fu_pos hf
    have : j = L := by omega
    subst this
    exact he f a
  | succ n ih =>
    intro f j a hj hf hI
    obtain ⟨f, rfl, hf⟩ := fu_pos hf
    obtain ⟨e, hI'⟩ := hs f j a (by omega) hI
    rw [e, show (j : Int) + 1 = ((j + 1 : Nat) : Int) by omega]
    exact ih f (j + 1) _ (by omega) (by omega) hI'
theorem b2_if {b : Bool} {α : Type} {A B r : α} (c : (if b = true then B else A) = r) : (if b2i b = 0 then A else B) = r := by cases b <;> exact c
def gRw (ls : List LN) (j : Nat) (a : Int) : Int := a + ((rows (gl ls j)).length : Int)
noncomputable def gBi (ls : List LN) (j : Nat) (a : Int) : Int := if rtS ls j = true then a + 1 else a
noncomputable def gGr (ls : List LN) (j : Nat) (a : Int) : Int := if rtS ls j = true then (if a < (gl ls j).1.1 then (gl ls j).1.1 else a) else a
noncomputable def gDe (ls : List LN) (j : Nat) (a : Int) : Int := if rtS ls j = true then (if a < deS ls j then deS ls j else a) else a
noncomputable def gCo (ls : List LN) (j : Nat) (a : Int) : Int := if rtS ls j = true then a + coS (gl ls j).1.1 (gl ls j).2.1 else a
section COUNTX
variable {h : AH} {hw dw : Nat} {ls : List LN}
theorem x_rows (U : FUL h hw dw ls) : Ledger_rowsOfAll 1 h = some (acS (gRw ls) ls.length 0 0) := by
  have C := U.1
  have H := C.1
  have l60 := C.len
  unfold Ledger_rowsOfAll
  refine ac_run (F := fun f a j => Ledger_rowsOfAll_4 f 1 a j h) (I := fun j a => 0 ≤ a ∧ a ≤ 18 * (j : Int)) (out := fun a => a) (fun f j a hj hI => ?_) (fun f a => ?_) (L := ls.length) ls.length FU 0 0 (Nat.zero_add _) (fu_big (by omega)) ⟨by omega, by omega⟩
  · have L := C.ln hj
    have r1 := L.2.2.1.2.2.1
    have r2 := L.2.2.2.2.2.1
    have rl : (rows (gl ls j)).length ≤ 18 := by unfold rows; rw [List.length_append]; omega
    obtain ⟨i1, i2⟩ : 0 ≤ a ∧ a ≤ 18 * (j : Int) := hI
    refine ⟨?_, ?_⟩
    · show Ledger_rowsOfAll_4 (f + 1) 1 a j h = Ledger_rowsOfAll_4 f 1 (a + ((rows (gl ls j)).length : Int)) ((j : Int) + 1) h
      conv => lhs; unfold Ledger_rowsOfAll_4
      refine gB H.t1 ?_
      rw [C.sz]
      refine ifT (by omega) ?_
      refine gB H.t1 ?_
      refine cB (s_hasN C hj) ?_
      refine ifF one_ne ?_
      refine gB H.t1 ?_
      rw [H.p1_0]
      refine C.lnA hj ?_
      refine gB L.1.1 ?_
      refine cB (s_rowCount L) ?_
      rw [show ((gl ls j).2.1 ++ (gl ls j).2.2) = rows (gl ls j) from rfl, w32_e (z := a + ((rows (gl ls j)).length : Int)) (by omega), w32_e (z := (j : Int) + 1) (by omega)]
    · show 0 ≤ a + ((rows (gl ls j)).length : Int) ∧ a + ((rows (gl ls j)).length : Int) ≤ 18 * ((j + 1 : Nat) : Int)
      omega
  · show Ledger_rowsOfAll_4 (f + 1) 1 a ls.length h = some a
    unfold Ledger_rowsOfAll_4
    refine gB H.t1 ?_
    rw [C.sz]
    exact ifF (by omega) rfl
theorem x_great (U : FUL h hw dw ls) : Ledger_greatestRight 1 h = some (acS (gGr ls) ls.length 0 0) := by
  have C := U.1
  have H := C.1
  have l60 := C.len
  unfold Ledger_greatestRight
  refine ac_run (F := fun f a j => Ledger_greatestRight_4 f 1 a j h) (I := fun _ _ => True) (out := fun a => a) (fun f j a hj _ => ⟨?_, trivial⟩) (fun f a => ?_) (L := ls.length) ls.length FU 0 0 (Nat.zero_add _) (fu_big (by omega)) trivial
  · have L := C.ln hj
    show Ledger_greatestRight_4 (f + 1) 1 a j h = Ledger_greatestRight_4 f 1 (gGr ls j a) ((j : Int) + 1) h
    conv => lhs; unfold Ledger_greatestRight_4
    unfold gGr
    refine gB H.t1 ?_
    rw [C.sz]
    refine ifT (by omega) ?_
    refine gB H.t1 ?_
    refine rt_if U hj ?_
    rw [w32_e (z := (j : Int) + 1) (by omega)]
    by_cases z : rtS ls j = true
    · rw [if_pos z, if_pos z]
      refine gB H.t1 ?_
      rw [H.p1_0]
      refine C.lnA hj ?_
      refine gB L.1.1 ?_
      rw [L.2.1.1]
      exact cB s_max rfl
    · rw [if_neg z, if_neg z]
  · show Ledger_greatestRight_4 (f + 1) 1 a ls.length h = some a
    unfold Ledger_greatestRight_4
    refine gB H.t1 ?_
    rw [C.sz]
    exact ifF (by omega) rfl
theorem x_deeps (U : FUL h hw dw ls) : Ledger_deepestRight 1 h = some (acS (gDe ls) ls.length 0 0) := by
  have C := U.1
  have H := C.1
  have l60 := C.len
  unfold Ledger_deepestRight
  refine ac_run (F := fun f a j => Ledger_deepestRight_4 f 1 a j h) (I := fun _ _ => True) (out := fun a => a) (fun f j a hj _ => ⟨?_, trivial⟩) (fun f a => ?_) (L := ls.length) ls.length FU 0 0 (Nat.zero_add _) (fu_big (by omega)) trivial
  · show Ledger_deepestRight_4 (f + 1) 1 a j h = Ledger_deepestRight_4 f 1 (gDe ls j a) ((j : Int) + 1) h
    conv => lhs; unfold Ledger_deepestRight_4
    unfold gDe
    refine gB H.t1 ?_
    rw [C.sz]
    refine ifT (by omega) ?_
    refine gB H.t1 ?_
    refine rt_if U hj ?_
    rw [w32_e (z := (j : Int) + 1) (by omega)]
    by_cases z : rtS ls j = true
    · rw [if_pos z, if_pos z]
      refine gB H.t1 ?_
      rw [H.p1_3]
      refine gB ⟨H.t5, by omega, by rw [H.l5]; omega⟩ ?_
      rw [(U.2.1 j hj).2.2]
      exact cB s_max rfl
    · rw [if_neg z, if_neg z]
  · show Ledger_deepestRight_4 (f + 1) 1 a ls.length h = some a
    unfold Ledger_deepestRight_4
    refine gB H.t1 ?_
    rw [C.sz]
    exact ifF (by omega) rfl
theorem x_costs (U : FUL h hw dw ls) : Ledger_costOfRight 1 h = some (acS (gCo ls) ls.length 0 0) := by
  have C := U.1
  have H := C.1
  have l60 := C.len
  unfold Ledger_costOfRight
  refine ac_run (F := fun f a j => Ledger_costOfRight_4 f 1 a j h) (I := fun j a => -36 * (j : Int) ≤ a ∧ a ≤ 1116 * (j : Int)) (out := fun a => a) (fun f j a hj hI => ?_) (fun f a => ?_) (L := ls.length) ls.length FU 0 0 (Nat.zero_add _) (fu_big (by omega)) ⟨by omega, by omega⟩
  · have L := C.ln hj
    have ok := C.ok hj
    have r1 := L.2.2.1.2.2.1
    have cb := coS_bd (gl ls j).1.1 (gl ls j).2.1
    obtain ⟨i1, i2⟩ : -36 * (j : Int) ≤ a ∧ a ≤ 1116 * (j : Int) := hI
    refine ⟨?_, ?_⟩
    · show Ledger_costOfRight_4 (f + 1) 1 a j h = Ledger_costOfRight_4 f 1 (gCo ls j a) ((j : Int) + 1) h
      conv => lhs; unfold Ledger_costOfRight_4
      unfold gCo
      refine gB H.t1 ?_
      rw [C.sz]
      refine ifT (by omega) ?_
      refine gB H.t1 ?_
      refine rt_if U hj ?_
      rw [w32_e (z := (j : Int) + 1) (by omega)]
      by_cases z : rtS ls j = true
      · rw [if_pos z, if_pos z]
        refine gB H.t1 ?_
        rw [H.p1_0]
        refine C.lnA hj ?_
        refine cB (s_costOf L ok.1 fun r hr => by have := (ok.2.2.2.1 r hr).1.1; omega) ?_
        rw [w32_e (z := a + coS (gl ls j).1.1 (gl ls j).2.1) (by omega)]
      · rw [if_neg z, if_neg z]
    · show -36 * ((j + 1 : Nat) : Int) ≤ gCo ls j a ∧ gCo ls j a ≤ 1116 * ((j + 1 : Nat) : Int)
      unfold gCo
      by_cases z : rtS ls j = true
      · rw [if_pos z]; omega
      · rw [if_neg z]; omega
  · show Ledger_costOfRight_4 (f + 1) 1 a ls.length h = some a
    unfold Ledger_costOfRight_4
    refine gB H.t1 ?_
    rw [C.sz]
    exact ifF (by omega) rfl
theorem bc_ac {ls : List LN} {m : Nat} : ∀ (n j : Nat) (a : Int), (∀ i, j ≤ i → i < j + n → m.testBit i = rtS ls i) → acS (gBi ls) n j a = a + (bcS m n j : Int)
  | 0, j, a, _ => by unfold acS bcS; omega
  | n + 1, j, a, e => by
    show acS (gBi ls) n (j + 1) (gBi ls j a) = a + (((if m.testBit j then 1 else 0) + bcS m n (j + 1) : Nat) : Int)
    rw [bc_ac n (j + 1) _ fun i x y => e i (by omega) (by omega), e j (by omega) (by omega)]
    unfold gBi
    cases rtS ls j
    · show a + _ = a + ((0 + _ : Nat) : Int); omega
    · show a + 1 + _ = a + ((1 + _ : Nat) : Int); omega
theorem bc_0 {m k : Nat} (hm : m < 2 ^ k) : ∀ n j, k ≤ j → bcS m n j = 0
  | 0, _, _ => rfl
  | n + 1, j, hj => by
    unfold bcS
    rw [bc_0 hm n (j + 1) (by omega), Nat.testBit_lt_two_pow (Nat.lt_of_lt_of_le hm (Nat.pow_le_pow_right (by omega) hj))]
    rfl
theorem x_bits (U : FUL h hw dw ls) {m : Nat} (B : RB h ls ls.length m ls.length) : Lng_bitCount (hCe h 1 4) = some (acS (gBi ls) ls.length 0 0) := by
  have l60 := U.1.len
  have e1 : Lng_bitCount (hCe h 1 4) = some ((bcS m 64 0 : Nat) : Int) := by rw [B.1]; exact s_bitCount (U.1.m63 (k := 0) B.2.1)
  have e2 : bcS m 64 0 = bcS m ls.length 0 := by
    have := bcS_add m ls.length (64 - ls.length) 0
    rw [show ls.length + (64 - ls.length) = 64 by omega, bc_0 B.2.1 (64 - ls.length) (0 + ls.length) (by omega)] at this
    exact this.trans (Nat.add_zero _)
  have e3 := bc_ac (ls := ls) (m := m) ls.length 0 0 fun i _ y => B.2.2 i (by omega)
  rw [e1, e2, e3, Int.zero_add]
end COUNTX
section COUNTR
variable {ls : List LN} {tp : List Int}
theorem r_rows {h : AH} (m : MS h ls tp) : R_count_85 FU 27 0 0 h = some (acS (gRw ls) ls.length 0 0, h) := by
  have H := m.1
  have l60 := m.2.1.2.1
  refine ac_run (F := fun f a j => R_count_85 f 27 a j h) (I := fun j a => 0 ≤ a ∧ a ≤ 18 * (j : Int)) (out := fun a => (a, h)) (fun f j a hj hI => ?_) (fun f a => ?_) (L := ls.length) ls.length FU 0 0 (Nat.zero_add _) (fu_big (by omega)) ⟨by omega, by omega⟩
  · obtain ⟨-, ⟨d1, d9, -⟩, u1, u9, -⟩ := (m.2.1.2.2 j hj).1
    have rl : (rows (gl ls j)).length = (gl ls j).2.1.length + (gl ls j).2.2.length := by unfold rows; rw [List.length_append]
    obtain ⟨i1, i2⟩ : 0 ≤ a ∧ a ≤ 18 * (j : Int) := hI
    refine ⟨?_, ?_⟩
    · show R_count_85 (f + 1) 27 a j h = R_count_85 f 27 (a + ((rows (gl ls j)).length : Int)) ((j : Int) + 1) h
      conv => lhs; unfold R_count_85
      refine gB H.t27 ?_
      rw [m.2.1.1]
      refine ifT (by omega) ?_
      refine gB H.t27 ?_
      rw [H.p27_12]
      refine gB ⟨H.t37, by omega, by rw [H.l37]; omega⟩ ?_
      refine gB H.t27 ?_
      rw [H.p27_13]
      refine gB ⟨H.t38, by omega, by rw [H.l38]; omega⟩ ?_
      rw [d1, u1, w32_e (z := ((gl ls j).2.1.length : Int) + ((gl ls j).2.2.length : Int)) (by omega), w32_e (z := a + (((gl ls j).2.1.length : Int) + ((gl ls j).2.2.length : Int))) (by omega), w32_e (z := (j : Int) + 1) (by omega)]
      congr 1
      omega
    · show 0 ≤ a + ((rows (gl ls j)).length : Int) ∧ a + ((rows (gl ls j)).length : Int) ≤ 18 * ((j + 1 : Nat) : Int)
      omega
  · show R_count_85 (f + 1) 27 a ls.length h = some (a, h)
    unfold R_count_85
    refine gB H.t27 ?_
    rw [m.2.1.1]
    exact ifF (by omega) rfl
theorem r_bits {h : AH} (m : MS h ls tp) (L : LR h ls ls.length) : R_count_55 FU 27 0 0 h = some (acS (gBi ls) ls.length 0 0, h) := by
  have H := m.1
  have l60 := m.2.1.2.1
  refine ac_run (F := fun f a j => R_count_55 f 27 a j h) (I := fun j a => 0 ≤ a ∧ a ≤ (j : Int)) (out := fun a => (a, h)) (fun f j a hj hI => ?_) (fun f a => ?_) (L := ls.length) ls.length FU 0 0 (Nat.zero_add _) (fu_big (by omega)) ⟨by omega, by omega⟩
  · obtain ⟨i1, i2⟩ : 0 ≤ a ∧ a ≤ (j : Int) := hI
    refine ⟨?_, ?_⟩
    · show R_count_55 (f + 1) 27 a j h = R_count_55 f 27 (gBi ls j a) ((j : Int) + 1) h
      conv => lhs; unfold R_count_55
      unfold gBi
      refine gB H.t27 ?_
      rw [m.2.1.1]
      refine ifT (by omega) ?_
      refine gB H.t27 ?_
      rw [H.p27_19]
      refine gB ⟨Or.inr H.t44, by omega, by rw [H.l44]; omega⟩ ?_
      rw [(L j hj).1, w32_e (z := (j : Int) + 1) (by omega), w32_e (z := a + 1) (by omega)]
      refine b2_if ?_
      by_cases z : rtS ls j = true
      · rw [if_pos z, if_pos z]
      · rw [if_neg z, if_neg z]
    · show 0 ≤ gBi ls j a ∧ gBi ls j a ≤ ((j + 1 : Nat) : Int)
      unfold gBi
      by_cases z : rtS ls j = true
      · rw [if_pos z]; omega
      · rw [if_neg z]; omega
  · show R_count_55 (f + 1) 27 a ls.length h = some (a, h)
    unfold R_count_55
    refine gB H.t27 ?_
    rw [m.2.1.1]
    exact ifF (by omega) rfl
theorem r_great {h : AH} (m : MS h ls tp) (L : LR h ls ls.length) : R_count_124 FU 27 0 0 h = some (acS (gGr ls) ls.length 0 0, h) := by
  have H := m.1
  have l60 := m.2.1.2.1
  refine ac_run (F := fun f a j => R_count_124 f 27 a j h) (I := fun _ _ => True) (out := fun a => (a, h)) (fun f j a hj _ => ⟨?_, trivial⟩) (fun f a => ?_) (L := ls.length) ls.length FU 0 0 (Nat.zero_add _) (fu_big (by omega)) trivial
  · obtain ⟨⟨n1, -⟩, -⟩ := (m.2.1.2.2 j hj).1
    show R_count_124 (f + 1) 27 a j h = R_count_124 f 27 (gGr ls j a) ((j : Int) + 1) h
    conv => lhs; unfold R_count_124
    unfold gGr
    refine gB H.t27 ?_
    rw [m.2.1.1]
    refine ifT (by omega) ?_
    refine gB H.t27 ?_
    rw [H.p27_19]
    refine gB ⟨Or.inr H.t44, by omega, by rw [H.l44]; omega⟩ ?_
    rw [(L j hj).1, w32_e (z := (j : Int) + 1) (by omega)]
    refine b2_if ?_
    by_cases z : rtS ls j = true
    · rw [if_pos z, if_pos z]
      refine gB H.t27 ?_
      rw [H.p27_8]
      refine gB ⟨H.t33, by omega, by rw [H.l33]; omega⟩ ?_
      rw [n1]
      by_cases y : a < (gl ls j).1.1
      · rw [if_pos y, if_pos y]
        refine gB H.t27 ?_
        exact gB ⟨H.t33, by omega, by rw [H.l33]; omega⟩ (by rw [n1])
      · rw [if_neg y, if_neg y]
    · rw [if_neg z, if_neg z]
  · show R_count_124 (f + 1) 27 a ls.length h = some (a, h)
    unfold R_count_124
    refine gB H.t27 ?_
    rw [m.2.1.1]
    exact ifF (by omega) rfl
theorem r_costs {h : AH} (m : MS h ls tp) (L : LR h ls ls.length) : R_count_210 FU 27 0 0 h = some (acS (gCo ls) ls.length 0 0, h) := by
  have H := m.1
  have l60 := m.2.1.2.1
  refine ac_run (F := fun f a j => R_count_210 f 27 a j h) (I := fun j a => -36 * (j : Int) ≤ a ∧ a ≤ 1116 * (j : Int)) (out := fun a => (a, h)) (fun f j a hj hI => ?_) (fun f a => ?_) (L := ls.length) ls.length FU 0 0 (Nat.zero_add _) (fu_big (by omega)) ⟨by omega, by omega⟩
  · have r1 := (m.2.1.2.2 j hj).1.2.1.2.1
    have cb := coS_bd (gl ls j).1.1 (gl ls j).2.1
    obtain ⟨i1, i2⟩ : -36 * (j : Int) ≤ a ∧ a ≤ 1116 * (j : Int) := hI
    refine ⟨?_, ?_⟩
    · show R_count_210 (f + 1) 27 a j h = R_count_210 f 27 (gCo ls j a) ((j : Int) + 1) h
      conv => lhs; unfold R_count_210
      unfold gCo
      refine gB H.t27 ?_
      rw [m.2.1.1]
      refine ifT (by omega) ?_
      refine gB H.t27 ?_
      rw [H.p27_19]
      refine gB ⟨Or.inr H.t44, by omega, by rw [H.l44]; omega⟩ ?_
      rw [(L j hj).1, w32_e (z := (j : Int) + 1) (by omega)]
      refine b2_if ?_
      by_cases z : rtS ls j = true
      · rw [if_pos z, if_pos z]
        refine gB H.t27 ?_
        refine cB (s_costsOf m hj) ?_
        rw [w32_e (z := a + coS (gl ls j).1.1 (gl ls j).2.1) (by omega)]
      · rw [if_neg z, if_neg z]
    · show -36 * ((j + 1 : Nat) : Int) ≤ gCo ls j a ∧ gCo ls j a ≤ 1116 * ((j + 1 : Nat) : Int)
      unfold gCo
      by_cases z : rtS ls j = true
      · rw [if_pos z]; omega
      · rw [if_neg z]; omega
  · show R_count_210 (f + 1) 27 a ls.length h = some (a, h)
    unfold R_count_210
    refine gB H.t27 ?_
    rw [m.2.1.1]
    exact ifF (by omega) rfl
/-! ### the deepest: what is worked out stands in one array -/
def D5 (b _j : Int) : Prop := b = 51
theorem D5.dk {b j : Int} (z : D5 b j) : DK b j := Or.inr z
theorem dp_out5 {i : Nat} (hi : i < ls.length) (rt : rtS ls i = true) : ∀ (n f j : Nat) (h : AH), j + n = i + 1 → n < f → MS h ls tp → LR h ls ls.length → (∀ k : Nat, k < j → (reS ls i).testBit k = true → hCe h 51 k = deS ls k) → ∃ h', R_deepOf_9 f 27 i (reS ls i) j h = some (deS ls i, h') ∧ Fr D5 h h' := by
  intro n
  induction n with
  | zero =>
    intro f j h hj hf m L c
    obtain ⟨f, rfl, -⟩ := fu_pos hf
    have H := m.1
    have l60 := m.2.1.2.1
    refine ⟨h, ?_, Fr.rf⟩
    unfold R_deepOf_9
    refine ifT (by omega) ?_
    refine gB H.t27 ?_
    rw [H.p27_34]
    refine gB ⟨H.t51, by omega, by rw [H.l51]; omega⟩ ?_
    rw [c i (by omega) re_self]
  | succ n ih =>
    intro f j h hj hf m L c
    obtain ⟨f, rfl, hf⟩ := fu_pos hf
    have H := m.1
    have l60 := m.2.1.2.1
    have r63 := b63 (re_bd ls i) (by omega)
    cases b : (reS ls i).testBit j with
    | false =>
      obtain ⟨h', e', F'⟩ := ih f (j + 1) h (by omega) (by omega) m L fun k hk bk => by
        by_cases q : k = j
        · subst q; rw [b] at bk; cases bk
        · exact c k (by omega) bk
      refine ⟨h', ?_, F'⟩
      rw [← e']
      conv => lhs; unfold R_deepOf_9
      refine ifF (by omega) ?_
      refine cB (Rhas_n r63 (by omega)) ?_
      rw [b, w32_e (z := (j : Int) + 1) (by omega)]
      exact ifT rfl rfl
    | true =>
      obtain ⟨rj, tj⟩ := re_tr rt j b
      have F1 : Fr (fun b x => b = 51 ∧ x = (j : Int)) h (hSet h 51 j 0) := Fr.set ⟨rfl, rfl⟩
      have dk : ∀ b x : Int, b = 51 ∧ x = (j : Int) → D5 b x := fun b x z => z.1
      have m1 := m.frQ F1 fun b x z => (dk b x z).dk.q
      obtain ⟨h2, e2, F2, M2⟩ := dp_in (ls := ls) (i := i) (j := j) (by omega) (pr_lt rj) (k9 := fun a0 a1 a2 a3 h0 => R_deepOf_9 f a0 a1 a2 a3 h0) (w := (reS ls i : Int)) j FU 0 (hSet h 51 j 0) (by omega) (fu_big (by omega)) m1.1 (fun k hk bk => by
        rw [cN (by omega)]
        obtain ⟨r, hr, e⟩ := pr_bit.mp bk
        have := tj r hr
        rw [e] at this
        exact c k hk this) (by rw [cS]; exact ⟨by omega, by omega, fun k hk => absurd hk (Nat.not_lt_zero k), Or.inl rfl⟩)
      have m2 := m1.frQ F2 fun b x z => (dk b x z).dk.q
      have dj := mx_de rj M2
      have far : ∀ x : Int, hCe h2 44 x = hCe h 44 x ∧ hCe h2 45 x = hCe h 45 x := fun x => ⟨(F2.2 _ _ (by omega)).trans (cN (by omega)), (F2.2 _ _ (by omega)).trans (cN (by omega))⟩
      obtain ⟨h3, e3, F3⟩ := ih f (j + 1) h2 (by omega) (by omega) m2 (fun k hk => by rw [(far _).1, (far _).2]; exact L k hk) fun k hk bk => by
        by_cases q : k = j
        · subst q; exact dj
        · rw [F2.2 _ _ (by omega), cN (by omega)]; exact c k (by omega) bk
      refine ⟨h3, ?_, ((F1.tr F2).mo dk).tr F3⟩
      unfold R_deepOf_9
      refine ifF (by omega) ?_
      refine cB (Rhas_n r63 (by omega)) ?_
      rw [b]
      refine ifF one_ne ?_
      refine gB H.t27 ?_
      refine cB (s_props m L (by omega) rj) ?_
      refine gB H.t27 ?_
      rw [H.p27_34]
      refine gB ⟨H.t51, by omega, by rw [H.l51]; omega⟩ ?_
      refine e2.trans ?_
      exact e3
theorem s_deepOf5 {h : AH} (m : MS h ls tp) (L : LR h ls ls.length) {k : Nat} (hk : k < ls.length) (rt : rtS ls k = true) : ∃ h', R_deepOf 27 k h = some (deS ls k, h') ∧ Fr D5 h h' := by
  have l60 := m.2.1.2.1
  obtain ⟨h', e', F'⟩ := dp_out5 hk rt (k + 1) FU 0 h (by omega) (fu_big (by omega)) m L fun k hk => absurd hk (Nat.not_lt_zero k)
  refine ⟨h', ?_, F'⟩
  unfold R_deepOf
  refine gB m.1.t27 ?_
  exact cB (s_restsOf m L hk rt) e'
theorem LR.d5 {h h' : AH} {n : Nat} (L : LR h ls n) (F : Fr D5 h h') : LR h' ls n := fun i hi => by
  rw [F.2 _ _ (by unfold D5; omega), F.2 _ _ (by unfold D5; omega)]
  exact L i hi
theorem MS.d5 {h h' : AH} (m : MS h ls tp) (F : Fr D5 h h') : MS h' ls tp := m.frQ F fun b j z => z.dk.q
theorem cd_loop : ∀ (n f j : Nat) (a : Int) (h : AH), j + n = ls.length → n < f → MS h ls tp → LR h ls ls.length → ∃ h', R_count_168 f 27 a j h = some (acS (gDe ls) n j a, h') ∧ Fr D5 h h' := by
  intro n
  induction n with
  | zero =>
    intro f j a h hj hf m L
    obtain ⟨f, rfl, -⟩ := fu_pos hf
    refine ⟨h, ?_, Fr.rf⟩
    unfold R_count_168
    refine gB m.1.t27 ?_
    rw [m.2.1.1]
    exact ifF (by omega) rfl
  | succ n ih =>
    intro f j a h hj hf m L
    obtain ⟨f, rfl, hf⟩ := fu_pos hf
    have H := m.1
    have l60 := m.2.1.2.1
    have hj' : j < ls.length := by omega
    have pre : ∀ {r}, (if rtS ls j = true then ((gd (hTy h 27 = 10) 0).bind fun _ => (R_deepOf 27 j h).bind fun u4 => if a < u4.1 then (gd (hTy u4.2 27 = 10) 0).bind fun _ => (R_deepOf 27 j u4.2).bind fun u5 => R_count_168 f 27 u5.1 ((j + 1 : Nat) : Int) u5.2 else R_count_168 f 27 a ((j + 1 : Nat) : Int) u4.2) else R_count_168 f 27 a ((j + 1 : Nat) : Int) h) = r → R_count_168 (f + 1) 27 a j h = r := by
      rintro r rfl
      conv => lhs; unfold R_count_168
      refine gB H.t27 ?_
      rw [m.2.1.1]
      refine ifT (by omega) ?_
      refine gB H.t27 ?_
      rw [H.p27_19]
      refine gB ⟨Or.inr H.t44, by omega, by rw [H.l44]; omega⟩ ?_
      rw [(L j hj').1, w32_e (z := (j : Int) + 1) (by omega)]
      exact b2_if rfl
    show ∃ h', R_count_168 (f + 1) 27 a j h = some (acS (gDe ls) n (j + 1) (gDe ls j a), h') ∧ Fr D5 h h'
    by_cases z : rtS ls j = true
    · obtain ⟨h1, e1, F1⟩ := s_deepOf5 m L hj' z
      have m1 := m.d5 F1
      have L1 := L.d5 F1
      by_cases y : a < deS ls j
      · obtain ⟨h2, e2, F2⟩ := s_deepOf5 m1 L1 hj' z
        obtain ⟨h3, e3, F3⟩ := ih f (j + 1) (deS ls j) h2 (by omega) (by omega) (m1.d5 F2) (L1.d5 F2)
        refine ⟨h3, pre ?_, F1.tr (F2.tr F3)⟩
        rw [if_pos z]
        refine gB H.t27 ?_
        refine cB e1 ?_
        refine ifT y ?_
        refine gB m1.1.t27 ?_
        refine cB e2 ?_
        refine e3.trans ?_
        unfold gDe
        rw [if_pos z, if_pos y]
      · obtain ⟨h3, e3, F3⟩ := ih f (j + 1) a h1 (by omega) (by omega) m1 L1
        refine ⟨h3, pre ?_, F1.tr F3⟩
        rw [if_pos z]
        refine gB H.t27 ?_
        refine cB e1 ?_
        refine ifF y ?_
        refine e3.trans ?_
        unfold gDe
        rw [if_pos z, if_neg y]
    · obtain ⟨h3, e3, F3⟩ := ih f (j + 1) a h (by omega) (by omega) m L
      refine ⟨h3, pre ?_, F3⟩
      rw [if_neg z]
      refine e3.trans ?_
      unfold gDe
      rw [if_neg z]
end COUNTR
noncomputable def ctV (ls : List LN) (tp : List Int) (w : Int) : Int := if w = 0 then (ls.length : Int) else if w = 1 then acS (gBi ls) ls.length 0 0 else if w = 2 then acS (gRw ls) ls.length 0 0 else if w = 3 then (tp.length : Int) else if w = 4 then acS (gGr ls) ls.length 0 0 else if w = 5 then acS (gDe ls) ls.length 0 0 else if w = 6 then acS (gCo ls) ls.length 0 0 else -1
theorem q_count (w : Int) : sim (fun h => lft (X_count 0 w h) h) (fun h => R_count 27 w h) := mk_sim fun ls tp ok => by
  refine ⟨ctV ls tp w, ls, tp, xC.keep fun h hw dw U t => lft_s ?_, fun h m => ?_⟩
  · have H := U.1.1
    obtain ⟨mm, B⟩ := U.2.2
    unfold X_count ctV
    by_cases w0 : w = 0
    · rw [if_pos w0, if_pos w0]; refine gB H.t0 ?_; rw [H.p0_0]; refine gB H.t1 ?_; rw [U.1.sz]
    rw [if_neg w0, if_neg w0]
    by_cases w1 : w = 1
    · rw [if_pos w1, if_pos w1]; refine gB H.t0 ?_; rw [H.p0_0]; refine gB H.t1 ?_; exact cB (x_bits U B) rfl
    rw [if_neg w1, if_neg w1]
    by_cases w2 : w = 2
    · rw [if_pos w2, if_pos w2]; refine gB H.t0 ?_; rw [H.p0_0]; refine gB H.t1 ?_; exact cB (x_rows U) rfl
    rw [if_neg w2, if_neg w2]
    by_cases w3 : w = 3
    · rw [if_pos w3, if_pos w3]; refine gB H.t0 ?_; rw [H.p0_2]; refine gB H.t14 ?_; rw [t.1]
    rw [if_neg w3, if_neg w3]
    by_cases w4 : w = 4
    · rw [if_pos w4, if_pos w4]; refine gB H.t0 ?_; rw [H.p0_0]; refine gB H.t1 ?_; exact cB (x_great U) rfl
    rw [if_neg w4, if_neg w4]
    by_cases w5 : w = 5
    · rw [if_pos w5, if_pos w5]; refine gB H.t0 ?_; rw [H.p0_0]; refine gB H.t1 ?_; exact cB (x_deeps U) rfl
    rw [if_neg w5, if_neg w5]
    by_cases w6 : w = 6
    · rw [if_pos w6, if_pos w6]; refine gB H.t0 ?_; rw [H.p0_0]; refine gB H.t1 ?_; exact cB (x_costs U) rfl
    rw [if_neg w6, if_neg w6]
  · obtain ⟨h', e, F', L⟩ := s_laysRight m.1 m.2.1
    have m' := m.frQ F' fun b j => WK.q
    have keep : ∀ r, R_count 27 w h = some (r, h') → ∃ h2, R_count 27 w h = some (r, h2) ∧ MS h2 ls tp ∧ Fr MZ h h2 := fun r x => ⟨h', x, m', F'.mo fun b j => WK.mz⟩
    have pre : ∀ {r}, (if w = 0 then ((gd (hTy h' 27 = 10) (hCe h' 27 7)).bind fun u3 => some (u3, h')) else if w = 1 then R_count_55 FU 27 0 0 h' else if w = 2 then R_count_85 FU 27 0 0 h' else if w = 3 then ((gd (hTy h' 27 = 10) (hCe h' 27 24)).bind fun u4 => some (u4, h')) else if w = 4 then R_count_124 FU 27 0 0 h' else if w = 5 then R_count_168 FU 27 0 0 h' else if w = 6 then R_count_210 FU 27 0 0 h' else some (-1, h')) = r → R_count 27 w h = r := by
      rintro r rfl
      unfold R_count
      refine gB m.1.t27 ?_
      exact cB e rfl
    unfold ctV
    by_cases w0 : w = 0
    · rw [if_pos w0]; refine keep _ (pre ?_); rw [if_pos w0]; refine gB m'.1.t27 ?_; rw [m'.2.1.1]
    rw [if_neg w0] at pre ⊢
    by_cases w1 : w = 1
    · rw [if_pos w1]; refine keep _ (pre ?_); rw [if_pos w1]; exact r_bits m' L
    rw [if_neg w1] at pre ⊢
    by_cases w2 : w = 2
    · rw [if_pos w2]; refine keep _ (pre ?_); rw [if_pos w2]; exact r_rows m'
    rw [if_neg w2] at pre ⊢
    by_cases w3 : w = 3
    · rw [if_pos w3]; refine keep _ (pre ?_); rw [if_pos w3]; refine gB m'.1.t27 ?_; rw [m'.2.2.1]
    rw [if_neg w3] at pre ⊢
    by_cases w4 : w = 4
    · rw [if_pos w4]; refine keep _ (pre ?_); rw [if_pos w4]; exact r_great m' L
    rw [if_neg w4] at pre ⊢
    by_cases w5 : w = 5
    · rw [if_pos w5]
      have l60 := m'.2.1.2.1
      obtain ⟨h2, e2, F2⟩ := cd_loop ls.length FU 0 0 h' (by omega) (fu_big (by omega)) m' L
      refine ⟨h2, pre ?_, m'.d5 F2, (F'.mo fun b j => WK.mz).tr (F2.mo fun b j z => z.dk.mz)⟩
      rw [if_pos w5]
      exact e2
    rw [if_neg w5] at pre ⊢
    by_cases w6 : w = 6
    · rw [if_pos w6]; refine keep _ (pre ?_); rw [if_pos w6]; exact r_costs m' L
    rw [if_neg w6] at pre ⊢
    exact keep _ (pre rfl)
