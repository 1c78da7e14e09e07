/-! the tables, looked up: what every entry stands for -/
def wG : List Cond := lw_tbl.filter goodWord
def inG (p : Nat) (w : Cond) : Bool := decide (lw_tbl[p]? = some w) && goodWord w
theorem inG_mem {p : Nat} {w : Cond} (h : inG p w = true) : w ∈ wG := by
  simp only [inG, Bool.and_eq_true, decide_eq_true_eq] at h
  exact List.mem_filter.mpr ⟨List.mem_of_getElem? h.1, h.2⟩
def nF (ci : Nat) : Nat := ((aGs[ci]?).getD []).length
def tgT (t : Nat) (ty : FieldType) : Bool := match t, ty with
  | 0, .int => true
  | 1, .long => true
  | 2, .object _ => true
  | 2, .array _ => true
  | _, _ => false
def allL {α : Type} (P : Nat → Nat × α → Bool) : Nat → List (List (Nat × α)) → Bool
  | _, [] => true
  | c, l :: r => l.all (P c) && allL P (c + 1) r
theorem lkp_mem {α : Type} {v : α} {n : Nat} : ∀ {l : List (Nat × α)}, lkp l n = some v → (n, v) ∈ l
  | [], h => by simp [lkp] at h
  | (k, w) :: l, h => by
    unfold lkp at h
    split at h
    · rename_i e
      cases h
      have : k = n := Nat.eq_of_beq_eq_true e
      subst this
      exact List.mem_cons_self
    · exact List.mem_cons_of_mem _ (lkp_mem h)
theorem allL_at {α : Type} {P : Nat → Nat × α → Bool} : ∀ {T : List (List (Nat × α))} {c0 : Nat}, allL P c0 T = true → ∀ {c : Nat} {l : List (Nat × α)}, T[c]? = some l → ∀ e ∈ l, P (c0 + c) e = true
  | [], _, _, c, l, h, _, _ => by simp at h
  | a :: T, c0, h, c, l, hc, e, he => by
    simp only [allL, Bool.and_eq_true] at h
    cases c with
    | zero =>
      simp only [List.getElem?_cons_zero, Option.some.injEq] at hc
      subst hc
      exact List.all_eq_true.mp h.1 e he
    | succ c =>
      rw [List.getElem?_cons_succ] at hc
      have := allL_at h.2 hc e he
      rwa [show c0 + 1 + c = c0 + (c + 1) by omega] at this
theorem lkC_at {α : Type} {P : Nat → Nat × α → Bool} {T : List (List (Nat × α))} (h : allL P 0 T = true) {c x : Nat} {v : α} (hk : lkC T c x = some v) : P c (x, v) = true := by
  unfold lkC at hk
  split at hk
  · rename_i l hl
    have := allL_at h hl _ (lkp_mem hk)
    rwa [Nat.zero_add] at this
  · cases hk
def cpN (c : Nat) : String := (aCp[c]?).getD ""
def chkF (c : Nat) (e : Nat × Nat × Nat × Nat × Nat × Nat) : Bool := match aCl[e.2.1]? with
  | some q => decide (e.2.2.1 < q.2.2) && inG e.2.2.2.2.2 (.fieldLink (cpN c) e.1 (q.2.1 e.2.2.1).1 (q.2.1 e.2.2.1).2.1 (q.2.1 e.2.2.1).2.2.1) && decide (tgF e.2.1 e.2.2.1 = e.2.2.2.1) && (decide (e.2.2.2.2.1 = 0) == !(q.2.1 e.2.2.1).2.2.2) && decide (e.2.2.1 < 100) && decide (e.2.2.2.1 < 10) && decide (q.1 = (q.2.1 e.2.2.1).1)
  | none => false
theorem chkF_all : allL chkF 0 aLF = true := by decide +kernel
/-- classes: fields, their kinds -/
def aYs : List (Nat → FieldType) := [aY0, aY1, aY2, aY3, aY4, aY5, aY6, aY7, aY8, aY9]
def chkC (ci : Nat) : Bool := match aCl[ci]?, aYs[ci]? with
  | some q, some ty => decide (nF ci = q.2.2) && decide (q.2.2 ≤ 40) && (List.range q.2.2).all fun k => tgT (tgF ci k) (ty k)
  | _, _ => false
theorem chkC_all : (List.range 10).all chkC = true := by decide +kernel
theorem aCl_lt {ci : Nat} {q : vw_C} (h : aCl[ci]? = some q) : ci < 10 := (List.getElem?_eq_some_iff.mp h).1
theorem aI_in {ci : Nat} {q : vw_C} (h : aCl[ci]? = some q) : ∀ w ∈ u_ws q.1 q.2.1 q.2.2, w ∈ lw_tbl := by
  have hl := aCl_lt h
  rcases (show ci = 0 ∨ ci = 1 ∨ ci = 2 ∨ ci = 3 ∨ ci = 4 ∨ ci = 5 ∨ ci = 6 ∨ ci = 7 ∨ ci = 8 ∨ ci = 9 by omega) with rfl | rfl | rfl | rfl | rfl | rfl | rfl | rfl | rfl | rfl <;> (cases h; first | exact aI0 | exact aI1 | exact aI2 | exact aI3 | exact aI4 | exact aI5 | exact aI6 | exact aI7 | exact aI8 | exact aI9)
theorem aI_good {C : String} {T : u_T} {N : Nat} (h : ∀ w ∈ u_ws C T N, w ∈ lw_tbl) : ∀ w ∈ u_ws C T N, w ∈ wG := fun w hw => by
  refine List.mem_filter.mpr ⟨h w hw, ?_⟩
  obtain ⟨k, -, rfl⟩ := List.mem_map.mp hw
  unfold u_lay
  split <;> rfl
theorem aO_at {ci : Nat} {q : vw_C} (h : aCl[ci]? = some q) : ∃ ty : Nat → FieldType, aYs[ci]? = some ty ∧ (∀ k, k < q.2.2 → parseFieldDescriptor (q.2.1 k).2.2.1 = some (ty k)) ∧ ∀ a, a < q.2.2 → ∀ b, b < q.2.2 → a ≠ b → (q.2.1 a).2.1 ≠ (q.2.1 b).2.1 := by
  have hl := aCl_lt h
  rcases (show ci = 0 ∨ ci = 1 ∨ ci = 2 ∨ ci = 3 ∨ ci = 4 ∨ ci = 5 ∨ ci = 6 ∨ ci = 7 ∨ ci = 8 ∨ ci = 9 by omega) with rfl | rfl | rfl | rfl | rfl | rfl | rfl | rfl | rfl | rfl <;> (cases h; first | exact ⟨_, rfl, aO0, aN0⟩ | exact ⟨_, rfl, aO1, aN1⟩ | exact ⟨_, rfl, aO2, aN2⟩ | exact ⟨_, rfl, aO3, aN3⟩ | exact ⟨_, rfl, aO4, aN4⟩ | exact ⟨_, rfl, aO5, aN5⟩ | exact ⟨_, rfl, aO6, aN6⟩ | exact ⟨_, rfl, aO7, aN7⟩ | exact ⟨_, rfl, aO8, aN8⟩ | exact ⟨_, rfl, aO9, aN9⟩)
theorem chkC_at {ci : Nat} {q : vw_C} (h : aCl[ci]? = some q) {ty : Nat → FieldType} (hy : aYs[ci]? = some ty) : nF ci = q.2.2 ∧ q.2.2 ≤ 40 ∧ ∀ k, k < q.2.2 → tgT (tgF ci k) (ty k) = true := by
  have := List.all_eq_true.mp chkC_all ci (List.mem_range.mpr (aCl_lt h))
  simp only [chkC, h, hy, Bool.and_eq_true, decide_eq_true_eq] at this
  exact ⟨this.1.1, this.1.2, fun k hk => List.all_eq_true.mp this.2 k (List.mem_range.mpr hk)⟩

/-- Math's own methods that this claim reaches are bytecode -/
def aFlo : List String := ["(D)D", "(DD)D", "(DDD)D", "(F)F", "(FF)F", "(FFF)F"]
theorem aMathRows : (Jvm.natives.all fun r => r.cls != "java/lang/Math" || aFlo.contains r.desc) = true := by decide +kernel
theorem aMathPlain {x : MethodName} (hc : x.cls = "java/lang/Math") (hd : aFlo.contains x.desc = false) : plainFor x = true := by
  unfold plainFor
  rw [Bool.or_eq_true]; right
  rw [Option.isNone_iff_eq_none, NativeRow.find?, List.find?_eq_none]
  intro r hr h
  have := List.all_eq_true.mp aMathRows r hr
  simp only [Bool.and_eq_true, beq_iff_eq] at h
  rw [h.1.2, h.2, hc, hd] at this
  simp at this
def FM (M : aM) : Prop := cpN M.2.2.2.2.2.2 = M.2.1.cls ∧ M.2.2.1 ≤ 17 ∧ plainFor M.2.1 = true ∧ M.2.1.cls ≠ "java/lang/invoke/MethodHandle" ∧ M.2.1.cls ≠ "java/lang/invoke/VarHandle" ∧ (parseMethodDescriptor M.2.1.desc).map (fun d => d.parameters.length + M.2.2.2.2.2.1) = some M.2.2.2.2.1
def FC (M : aM) : Prop := Cond.code M.2.1 M.1 M.2.2.1 M.2.2.2.1 ∈ wG ∧ Cond.initialized M.2.1.cls ∈ wG
def FS (M : aM) : Prop := Cond.static M.2.1 ∈ wG ∧ M.2.2.2.2.2.1 = 0
def FV (y : Nat) (M : aM) : Prop := Cond.instanceMethod M.2.1 ∈ wG ∧ Cond.selects M.2.1.cls M.2.1 M.2.1 ∈ wG ∧ M.2.2.2.2.2.1 = 1 ∧ ((∃ q, aCl[mCl y - 1]? = some q ∧ q.1 = M.2.1.cls ∧ mCl y ≠ 0) ∨ (mCl y = 0 ∧ M.2.1.cls = "java/lang/String"))
def FI (M : aM) : Prop := Cond.instanceMethod M.2.1 ∈ wG ∧ M.2.2.2.2.2.1 = 1 ∧ M.2.1.name = "<init>" ∧ M.2.2.2.1 = none
def PL (c : Nat) (e : Nat × Nat × Nat × Nat × Nat × Nat × Nat × Nat) : Prop := match e.2.2.1 with
  | 8 => Cond.methodLink (cpN c) e.1 arraycopyName ∈ wG ∧ Cond.static arraycopyName ∈ wG ∧ Cond.native arraycopyName ∈ wG ∧ Cond.initialized "java/lang/System" ∈ wG
  | 9 => Cond.methodLink (cpN c) e.1 Lib.objectInit ∈ wG ∧ Cond.instanceMethod Lib.objectInit ∈ wG
  | 0 => ∃ M, aMt[e.2.1]? = some M ∧ FM M ∧ FC M ∧ FS M ∧ Cond.methodLink (cpN c) e.1 M.2.1 ∈ wG
  | 2 => ∃ M, aMt[e.2.1]? = some M ∧ FM M ∧ FC M ∧ FV e.2.1 M ∧ Cond.methodLink (cpN c) e.1 M.2.1 ∈ wG
  | 4 => ∃ M, aMt[e.2.1]? = some M ∧ FM M ∧ FC M ∧ FI M ∧ Cond.methodLink (cpN c) e.1 M.2.1 ∈ wG
  | 5 => ∃ M, aMt[e.2.1]? = some M ∧ FM M ∧ FC M ∧ FI M ∧ Cond.methodLinkNest (cpN c) e.1 M.2.1 "PrimeProofs" ∈ lw_tbl
  | _ => False
abbrev aCl_0 : vw_C := (aR0, aT0, 3)
abbrev aCl_1 : vw_C := (aR1, aT1, 4)
abbrev aCl_2 : vw_C := (aR2, aT2, 6)
abbrev aCl_3 : vw_C := (aR3, aT3, 7)
abbrev aCl_4 : vw_C := (aR4, aT4, 6)
abbrev aCl_5 : vw_C := (aR5, aT5, 2)
abbrev aCl_6 : vw_C := (aR6, aT6, 2)
abbrev aCl_7 : vw_C := (aR7, aT7, 2)
abbrev aCl_8 : vw_C := (aR8, aT8, 6)
abbrev aCl_9 : vw_C := (aR9, aT9, 35)
theorem gT0 {i : Nat} {w : Cond} (h : (k2_sels lw_privs)[i]? = some w) : w ∈ lw_tbl := List.mem_append_left _ (List.mem_of_getElem? h)
theorem gT1 {i : Nat} {w : Cond} (h : tables_1_1[i]? = some w) : w ∈ lw_tbl := List.mem_append_right _ (List.mem_append_left _ (List.mem_of_getElem? h))
theorem gT2 {i : Nat} {w : Cond} (h : tables_1_2[i]? = some w) : w ∈ lw_tbl := List.mem_append_right _ (List.mem_append_right _ (List.mem_append_left _ (List.mem_of_getElem? h)))
theorem gT3 {i : Nat} {w : Cond} (h : tables_1_3[i]? = some w) : w ∈ lw_tbl := List.mem_append_right _ (List.mem_append_right _ (List.mem_append_right _ (List.mem_append_left _ (List.mem_of_getElem? h))))
theorem gT4 {i : Nat} {w : Cond} (h : tables_1_4[i]? = some w) : w ∈ lw_tbl := List.mem_append_right _ (List.mem_append_right _ (List.mem_append_right _ (List.mem_append_right _ (List.mem_append_left _ (List.mem_of_getElem? h)))))
theorem gT5 {i : Nat} {w : Cond} (h : tables_1_5[i]? = some w) : w ∈ lw_tbl := List.mem_append_right _ (List.mem_append_right _ (List.mem_append_right _ (List.mem_append_right _ (List.mem_append_right _ (List.mem_append_left _ (List.mem_of_getElem? h))))))
theorem gT6 {i : Nat} {w : Cond} (h : tables_1_6[i]? = some w) : w ∈ lw_tbl := List.mem_append_right _ (List.mem_append_right _ (List.mem_append_right _ (List.mem_append_right _ (List.mem_append_right _ (List.mem_append_right _ (List.mem_append_left _ (List.mem_of_getElem? h)))))))
theorem gT7 {i : Nat} {w : Cond} (h : tables_1_7[i]? = some w) : w ∈ lw_tbl := List.mem_append_right _ (List.mem_append_right _ (List.mem_append_right _ (List.mem_append_right _ (List.mem_append_right _ (List.mem_append_right _ (List.mem_append_right _ (List.mem_of_getElem? h)))))))
theorem gW {w : Cond} (h : w ∈ lw_tbl) (g : goodWord w = true) : w ∈ wG := List.mem_filter.mpr ⟨h, g⟩
set_option maxRecDepth 100000 in
theorem aA_0 : aMt[0]? = some aM_0 := rfl
theorem fM_0 : FM aM_0 := ⟨rfl, by decide, (plainFor_of_name rfl), by decide +kernel, by decide +kernel, by decide +kernel⟩
theorem fC_0 : FC aM_0 := ⟨(gW (gT1 (i := 24) rfl) rfl), (gW (gT1 (i := 1) rfl) rfl)⟩
theorem fI_0 : FI aM_0 := ⟨(gW (gT1 (i := 23) rfl) rfl), rfl, rfl, rfl⟩
set_option maxRecDepth 100000 in
theorem aA_1 : aMt[1]? = some aM_1 := rfl
theorem fM_1 : FM aM_1 := ⟨rfl, by decide, (plainFor_of_name rfl), by decide +kernel, by decide +kernel, by decide +kernel⟩
theorem fC_1 : FC aM_1 := ⟨(gW (gT1 (i := 32) rfl) rfl), (gW (gT1 (i := 2) rfl) rfl)⟩
theorem fI_1 : FI aM_1 := ⟨(gW (gT1 (i := 31) rfl) rfl), rfl, rfl, rfl⟩
set_option maxRecDepth 100000 in
theorem aA_2 : aMt[2]? = some aM_2 := rfl
theorem fM_2 : FM aM_2 := ⟨rfl, by decide, (plainFor_of_name rfl), by decide +kernel, by decide +kernel, by decide +kernel⟩
theorem fC_2 : FC aM_2 := ⟨(gW (gT1 (i := 68) rfl) rfl), (gW (gT1 (i := 3) rfl) rfl)⟩
theorem fI_2 : FI aM_2 := ⟨(gW (gT1 (i := 67) rfl) rfl), rfl, rfl, rfl⟩
set_option maxRecDepth 100000 in
theorem aA_3 : aMt[3]? = some aM_3 := rfl
theorem fM_3 : FM aM_3 := ⟨rfl, by decide, (plainFor_of_name rfl), by decide +kernel, by decide +kernel, by decide +kernel⟩
theorem fC_3 : FC aM_3 := ⟨(gW (gT1 (i := 74) rfl) rfl), (gW (gT1 (i := 4) rfl) rfl)⟩
theorem fI_3 : FI aM_3 := ⟨(gW (gT1 (i := 73) rfl) rfl), rfl, rfl, rfl⟩
set_option maxRecDepth 100000 in
theorem aA_4 : aMt[4]? = some aM_4 := rfl
theorem fM_4 : FM aM_4 := ⟨rfl, by decide, (plainFor_of_name rfl), by decide +kernel, by decide +kernel, by decide +kernel⟩
theorem fC_4 : FC aM_4 := ⟨(gW (gT1 (i := 109) rfl) rfl), (gW (gT1 (i := 5) rfl) rfl)⟩
theorem fI_4 : FI aM_4 := ⟨(gW (gT1 (i := 108) rfl) rfl), rfl, rfl, rfl⟩
set_option maxRecDepth 100000 in
theorem aA_5 : aMt[5]? = some aM_5 := rfl
theorem fM_5 : FM aM_5 := ⟨rfl, by decide, (plainFor_of_name rfl), by decide +kernel, by decide +kernel, by decide +kernel⟩
theorem fC_5 : FC aM_5 := ⟨(gW (gT1 (i := 126) rfl) rfl), (gW (gT1 (i := 6) rfl) rfl)⟩
theorem fI_5 : FI aM_5 := ⟨(gW (gT1 (i := 125) rfl) rfl), rfl, rfl, rfl⟩
set_option maxRecDepth 100000 in
theorem aA_6 : aMt[6]? = some aM_6 := rfl
theorem fM_6 : FM aM_6 := ⟨rfl, by decide, (plainFor_of_name rfl), by decide +kernel, by decide +kernel, by decide +kernel⟩
theorem fC_6 : FC aM_6 := ⟨(gW (gT1 (i := 132) rfl) rfl), (gW (gT1 (i := 7) rfl) rfl)⟩
theorem fI_6 : FI aM_6 := ⟨(gW (gT1 (i := 131) rfl) rfl), rfl, rfl, rfl⟩
set_option maxRecDepth 100000 in
theorem aA_7 : aMt[7]? = some aM_7 := rfl
theorem fM_7 : FM aM_7 := ⟨rfl, by decide, (plainFor_of_name rfl), by decide +kernel, by decide +kernel, by decide +kernel⟩
theorem fC_7 : FC aM_7 := ⟨(gW (gT1 (i := 138) rfl) rfl), (gW (gT1 (i := 8) rfl) rfl)⟩
theorem fI_7 : FI aM_7 := ⟨(gW (gT1 (i := 137) rfl) rfl), rfl, rfl, rfl⟩
set_option maxRecDepth 100000 in
theorem aA_8 : aMt[8]? = some aM_8 := rfl
theorem fM_8 : FM aM_8 := ⟨rfl, by decide, (plainFor_of_name rfl), by decide +kernel, by decide +kernel, by decide +kernel⟩
theorem fC_8 : FC aM_8 := ⟨(gW (gT1 (i := 231) rfl) rfl), (gW (gT1 (i := 9) rfl) rfl)⟩
theorem fI_8 : FI aM_8 := ⟨(gW (gT1 (i := 230) rfl) rfl), rfl, rfl, rfl⟩
set_option maxRecDepth 100000 in
theorem aA_9 : aMt[9]? = some aM_9 := rfl
theorem fM_9 : FM aM_9 := ⟨rfl, by decide, (plainFor_of_name rfl), by decide +kernel, by decide +kernel, by decide +kernel⟩
theorem fC_9 : FC aM_9 := ⟨(gW (gT2 (i := 26) rfl) rfl), (gW (gT1 (i := 1) rfl) rfl)⟩
theorem mC_9 : mCl 9 = 9 := by decide +kernel
theorem fV_9 : FV 9 aM_9 := ⟨(gW (gT2 (i := 24) rfl) rfl), (gW (gT2 (i := 25) rfl) rfl), rfl, Or.inl ⟨aCl_8, by rw [mC_9]; rfl, rfl, by rw [mC_9]; decide⟩⟩
set_option maxRecDepth 100000 in
theorem aA_10 : aMt[10]? = some aM_10 := rfl
theorem fM_10 : FM aM_10 := ⟨rfl, by decide, (plainFor_of_name rfl), by decide +kernel, by decide +kernel, by decide +kernel⟩
theorem fC_10 : FC aM_10 := ⟨(gW (gT2 (i := 29) rfl) rfl), (gW (gT1 (i := 11) rfl) rfl)⟩
theorem fS_10 : FS aM_10 := ⟨(gW (gT2 (i := 28) rfl) rfl), rfl⟩
set_option maxRecDepth 100000 in
theorem aA_11 : aMt[11]? = some aM_11 := rfl
theorem fM_11 : FM aM_11 := ⟨rfl, by decide, (plainFor_of_name rfl), by decide +kernel, by decide +kernel, by decide +kernel⟩
theorem fC_11 : FC aM_11 := ⟨(gW (gT2 (i := 34) rfl) rfl), (gW (gT1 (i := 2) rfl) rfl)⟩
theorem mC_11 : mCl 11 = 3 := by decide +kernel
theorem fV_11 : FV 11 aM_11 := ⟨(gW (gT2 (i := 32) rfl) rfl), (gW (gT2 (i := 33) rfl) rfl), rfl, Or.inl ⟨aCl_2, by rw [mC_11]; rfl, rfl, by rw [mC_11]; decide⟩⟩
set_option maxRecDepth 100000 in
theorem aA_12 : aMt[12]? = some aM_12 := rfl
theorem fM_12 : FM aM_12 := ⟨rfl, by decide, (plainFor_of_name rfl), by decide +kernel, by decide +kernel, by decide +kernel⟩
theorem fC_12 : FC aM_12 := ⟨(gW (gT2 (i := 38) rfl) rfl), (gW (gT1 (i := 2) rfl) rfl)⟩
theorem mC_12 : mCl 12 = 3 := by decide +kernel
theorem fV_12 : FV 12 aM_12 := ⟨(gW (gT2 (i := 36) rfl) rfl), (gW (gT2 (i := 37) rfl) rfl), rfl, Or.inl ⟨aCl_2, by rw [mC_12]; rfl, rfl, by rw [mC_12]; decide⟩⟩
set_option maxRecDepth 100000 in
theorem aA_13 : aMt[13]? = some aM_13 := rfl
theorem fM_13 : FM aM_13 := ⟨rfl, by decide, (plainFor_of_name rfl), by decide +kernel, by decide +kernel, by decide +kernel⟩
theorem fC_13 : FC aM_13 := ⟨(gW (gT2 (i := 42) rfl) rfl), (gW (gT1 (i := 2) rfl) rfl)⟩
theorem mC_13 : mCl 13 = 3 := by decide +kernel
theorem fV_13 : FV 13 aM_13 := ⟨(gW (gT2 (i := 40) rfl) rfl), (gW (gT2 (i := 41) rfl) rfl), rfl, Or.inl ⟨aCl_2, by rw [mC_13]; rfl, rfl, by rw [mC_13]; decide⟩⟩
set_option maxRecDepth 100000 in
theorem aA_14 : aMt[14]? = some aM_14 := rfl
theorem fM_14 : FM aM_14 := ⟨rfl, by decide, (plainFor_of_name rfl), by decide +kernel, by decide +kernel, by decide +kernel⟩
theorem fC_14 : FC aM_14 := ⟨(gW (gT2 (i := 45) rfl) rfl), (gW (gT1 (i := 2) rfl) rfl)⟩
theorem fS_14 : FS aM_14 := ⟨(gW (gT2 (i := 44) rfl) rfl), rfl⟩
set_option maxRecDepth 100000 in
theorem aA_15 : aMt[15]? = some aM_15 := rfl
theorem fM_15 : FM aM_15 := ⟨rfl, by decide, (plainFor_of_name rfl), by decide +kernel, by decide +kernel, by decide +kernel⟩
theorem fC_15 : FC aM_15 := ⟨(gW (gT2 (i := 49) rfl) rfl), (gW (gT1 (i := 3) rfl) rfl)⟩
theorem mC_15 : mCl 15 = 2 := by decide +kernel
theorem fV_15 : FV 15 aM_15 := ⟨(gW (gT2 (i := 47) rfl) rfl), (gW (gT2 (i := 48) rfl) rfl), rfl, Or.inl ⟨aCl_1, by rw [mC_15]; rfl, rfl, by rw [mC_15]; decide⟩⟩
set_option maxRecDepth 100000 in
theorem aA_16 : aMt[16]? = some aM_16 := rfl
theorem fM_16 : FM aM_16 := ⟨rfl, by decide, (plainFor_of_name rfl), by decide +kernel, by decide +kernel, by decide +kernel⟩
theorem fC_16 : FC aM_16 := ⟨(gW (gT2 (i := 53) rfl) rfl), (gW (gT1 (i := 3) rfl) rfl)⟩
theorem mC_16 : mCl 16 = 2 := by decide +kernel
theorem fV_16 : FV 16 aM_16 := ⟨(gW (gT2 (i := 52) rfl) rfl), (gW (gT0 (i := 0) rfl) rfl), rfl, Or.inl ⟨aCl_1, by rw [mC_16]; rfl, rfl, by rw [mC_16]; decide⟩⟩
set_option maxRecDepth 100000 in
theorem aA_17 : aMt[17]? = some aM_17 := rfl
theorem fM_17 : FM aM_17 := ⟨rfl, by decide, (plainFor_of_name rfl), by decide +kernel, by decide +kernel, by decide +kernel⟩
theorem fC_17 : FC aM_17 := ⟨(gW (gT2 (i := 57) rfl) rfl), (gW (gT1 (i := 3) rfl) rfl)⟩
theorem mC_17 : mCl 17 = 2 := by decide +kernel
theorem fV_17 : FV 17 aM_17 := ⟨(gW (gT2 (i := 56) rfl) rfl), (gW (gT0 (i := 1) rfl) rfl), rfl, Or.inl ⟨aCl_1, by rw [mC_17]; rfl, rfl, by rw [mC_17]; decide⟩⟩
set_option maxRecDepth 100000 in
theorem aA_18 : aMt[18]? = some aM_18 := rfl
theorem fM_18 : FM aM_18 := ⟨rfl, by decide, (plainFor_of_name rfl), by decide +kernel, by decide +kernel, by decide +kernel⟩
theorem fC_18 : FC aM_18 := ⟨(gW (gT2 (i := 62) rfl) rfl), (gW (gT1 (i := 3) rfl) rfl)⟩
theorem mC_18 : mCl 18 = 2 := by decide +kernel
theorem fV_18 : FV 18 aM_18 := ⟨(gW (gT2 (i := 61) rfl) rfl), (gW (gT0 (i := 2) rfl) rfl), rfl, Or.inl ⟨aCl_1, by rw [mC_18]; rfl, rfl, by rw [mC_18]; decide⟩⟩
set_option maxRecDepth 100000 in
theorem aA_19 : aMt[19]? = some aM_19 := rfl
theorem fM_19 : FM aM_19 := ⟨rfl, by decide, (plainFor_of_name rfl), by decide +kernel, by decide +kernel, by decide +kernel⟩
theorem fC_19 : FC aM_19 := ⟨(gW (gT2 (i := 66) rfl) rfl), (gW (gT1 (i := 7) rfl) rfl)⟩
theorem mC_19 : mCl 19 = 4 := by decide +kernel
theorem fV_19 : FV 19 aM_19 := ⟨(gW (gT2 (i := 64) rfl) rfl), (gW (gT2 (i := 65) rfl) rfl), rfl, Or.inl ⟨aCl_3, by rw [mC_19]; rfl, rfl, by rw [mC_19]; decide⟩⟩
set_option maxRecDepth 100000 in
theorem aA_20 : aMt[20]? = some aM_20 := rfl
theorem fM_20 : FM aM_20 := ⟨rfl, by decide, (plainFor_of_name rfl), by decide +kernel, by decide +kernel, by decide +kernel⟩
theorem fC_20 : FC aM_20 := ⟨(gW (gT2 (i := 69) rfl) rfl), (gW (gT1 (i := 11) rfl) rfl)⟩
theorem fS_20 : FS aM_20 := ⟨(gW (gT2 (i := 68) rfl) rfl), rfl⟩
set_option maxRecDepth 100000 in
theorem aA_21 : aMt[21]? = some aM_21 := rfl
theorem fM_21 : FM aM_21 := ⟨rfl, by decide, (plainFor_of_name rfl), by decide +kernel, by decide +kernel, by decide +kernel⟩
theorem fC_21 : FC aM_21 := ⟨(gW (gT2 (i := 74) rfl) rfl), (gW (gT1 (i := 11) rfl) rfl)⟩
theorem fS_21 : FS aM_21 := ⟨(gW (gT2 (i := 73) rfl) rfl), rfl⟩
set_option maxRecDepth 100000 in
theorem aA_22 : aMt[22]? = some aM_22 := rfl
theorem fM_22 : FM aM_22 := ⟨rfl, by decide, (plainFor_of_name rfl), by decide +kernel, by decide +kernel, by decide +kernel⟩
theorem fC_22 : FC aM_22 := ⟨(gW (gT2 (i := 77) rfl) rfl), (gW (gT1 (i := 11) rfl) rfl)⟩
theorem fS_22 : FS aM_22 := ⟨(gW (gT2 (i := 76) rfl) rfl), rfl⟩
set_option maxRecDepth 100000 in
theorem aA_23 : aMt[23]? = some aM_23 := rfl
theorem fM_23 : FM aM_23 := ⟨rfl, by decide, (plainFor_of_name rfl), by decide +kernel, by decide +kernel, by decide +kernel⟩
theorem fC_23 : FC aM_23 := ⟨(gW (gT2 (i := 82) rfl) rfl), (gW (gT1 (i := 4) rfl) rfl)⟩
theorem mC_23 : mCl 23 = 1 := by decide +kernel
theorem fV_23 : FV 23 aM_23 := ⟨(gW (gT2 (i := 80) rfl) rfl), (gW (gT2 (i := 81) rfl) rfl), rfl, Or.inl ⟨aCl_0, by rw [mC_23]; rfl, rfl, by rw [mC_23]; decide⟩⟩
set_option maxRecDepth 100000 in
theorem aA_24 : aMt[24]? = some aM_24 := rfl
theorem fM_24 : FM aM_24 := ⟨rfl, by decide, (plainFor_of_name rfl), by decide +kernel, by decide +kernel, by decide +kernel⟩
theorem fC_24 : FC aM_24 := ⟨(gW (gT2 (i := 87) rfl) rfl), (gW (gT1 (i := 4) rfl) rfl)⟩
theorem mC_24 : mCl 24 = 1 := by decide +kernel
theorem fV_24 : FV 24 aM_24 := ⟨(gW (gT2 (i := 86) rfl) rfl), (gW (gT0 (i := 3) rfl) rfl), rfl, Or.inl ⟨aCl_0, by rw [mC_24]; rfl, rfl, by rw [mC_24]; decide⟩⟩
set_option maxRecDepth 100000 in
theorem aA_25 : aMt[25]? = some aM_25 := rfl
theorem fM_25 : FM aM_25 := ⟨rfl, by decide, (plainFor_of_name rfl), by decide +kernel, by decide +kernel, by decide +kernel⟩
theorem fC_25 : FC aM_25 := ⟨(gW (gT2 (i := 90) rfl) rfl), (gW (gT1 (i := 11) rfl) rfl)⟩
theorem fS_25 : FS aM_25 := ⟨(gW (gT2 (i := 89) rfl) rfl), rfl⟩
set_option maxRecDepth 100000 in
theorem aA_26 : aMt[26]? = some aM_26 := rfl
theorem fM_26 : FM aM_26 := ⟨rfl, by decide, (plainFor_of_name rfl), by decide +kernel, by decide +kernel, by decide +kernel⟩
theorem fC_26 : FC aM_26 := ⟨(gW (gT2 (i := 94) rfl) rfl), (gW (gT1 (i := 4) rfl) rfl)⟩
theorem mC_26 : mCl 26 = 1 := by decide +kernel
theorem fV_26 : FV 26 aM_26 := ⟨(gW (gT2 (i := 93) rfl) rfl), (gW (gT0 (i := 4) rfl) rfl), rfl, Or.inl ⟨aCl_0, by rw [mC_26]; rfl, rfl, by rw [mC_26]; decide⟩⟩
set_option maxRecDepth 100000 in
theorem aA_27 : aMt[27]? = some aM_27 := rfl
theorem fM_27 : FM aM_27 := ⟨rfl, by decide, (plainFor_of_name rfl), by decide +kernel, by decide +kernel, by decide +kernel⟩
theorem fC_27 : FC aM_27 := ⟨(gW (gT2 (i := 97) rfl) rfl), (gW (gT1 (i := 3) rfl) rfl)⟩
theorem fS_27 : FS aM_27 := ⟨(gW (gT2 (i := 96) rfl) rfl), rfl⟩
set_option maxRecDepth 100000 in
theorem aA_28 : aMt[28]? = some aM_28 := rfl
theorem fM_28 : FM aM_28 := ⟨rfl, by decide, (plainFor_of_name rfl), by decide +kernel, by decide +kernel, by decide +kernel⟩
theorem fC_28 : FC aM_28 := ⟨(gW (gT2 (i := 100) rfl) rfl), (gW (gT1 (i := 3) rfl) rfl)⟩
theorem fS_28 : FS aM_28 := ⟨(gW (gT2 (i := 99) rfl) rfl), rfl⟩
set_option maxRecDepth 100000 in
theorem aA_29 : aMt[29]? = some aM_29 := rfl
theorem fM_29 : FM aM_29 := ⟨rfl, by decide, (plainFor_of_name rfl), by decide +kernel, by decide +kernel, by decide +kernel⟩
theorem fC_29 : FC aM_29 := ⟨(gW (gT2 (i := 104) rfl) rfl), (gW (gT1 (i := 8) rfl) rfl)⟩
theorem mC_29 : mCl 29 = 6 := by decide +kernel
theorem fV_29 : FV 29 aM_29 := ⟨(gW (gT2 (i := 102) rfl) rfl), (gW (gT2 (i := 103) rfl) rfl), rfl, Or.inl ⟨aCl_5, by rw [mC_29]; rfl, rfl, by rw [mC_29]; decide⟩⟩
set_option maxRecDepth 100000 in
theorem aA_30 : aMt[30]? = some aM_30 := rfl
theorem fM_30 : FM aM_30 := ⟨rfl, by decide, (plainFor_of_name rfl), by decide +kernel, by decide +kernel, by decide +kernel⟩
theorem fC_30 : FC aM_30 := ⟨(gW (gT2 (i := 108) rfl) rfl), (gW (gT1 (i := 8) rfl) rfl)⟩
theorem mC_30 : mCl 30 = 6 := by decide +kernel
theorem fV_30 : FV 30 aM_30 := ⟨(gW (gT2 (i := 106) rfl) rfl), (gW (gT2 (i := 107) rfl) rfl), rfl, Or.inl ⟨aCl_5, by rw [mC_30]; rfl, rfl, by rw [mC_30]; decide⟩⟩
set_option maxRecDepth 100000 in
theorem aA_31 : aMt[31]? = some aM_31 := rfl
theorem fM_31 : FM aM_31 := ⟨rfl, by decide, (plainFor_of_name rfl), by decide +kernel, by decide +kernel, by decide +kernel⟩
theorem fC_31 : FC aM_31 := ⟨(gW (gT2 (i := 112) rfl) rfl), (gW (gT1 (i := 3) rfl) rfl)⟩
theorem mC_31 : mCl 31 = 2 := by decide +kernel
theorem fV_31 : FV 31 aM_31 := ⟨(gW (gT2 (i := 111) rfl) rfl), (gW (gT0 (i := 5) rfl) rfl), rfl, Or.inl ⟨aCl_1, by rw [mC_31]; rfl, rfl, by rw [mC_31]; decide⟩⟩
set_option maxRecDepth 100000 in
theorem aA_32 : aMt[32]? = some aM_32 := rfl
theorem fM_32 : FM aM_32 := ⟨rfl, by decide, (plainFor_of_name rfl), by decide +kernel, by decide +kernel, by decide +kernel⟩
theorem fC_32 : FC aM_32 := ⟨(gW (gT2 (i := 115) rfl) rfl), (gW (gT1 (i := 12) rfl) rfl)⟩
theorem fS_32 : FS aM_32 := ⟨(gW (gT2 (i := 114) rfl) rfl), rfl⟩
set_option maxRecDepth 100000 in
theorem aA_33 : aMt[33]? = some aM_33 := rfl
theorem fM_33 : FM aM_33 := ⟨rfl, by decide, (plainFor_of_name rfl), by decide +kernel, by decide +kernel, by decide +kernel⟩
theorem fC_33 : FC aM_33 := ⟨(gW (gT2 (i := 119) rfl) rfl), (gW (gT1 (i := 8) rfl) rfl)⟩
theorem mC_33 : mCl 33 = 6 := by decide +kernel
theorem fV_33 : FV 33 aM_33 := ⟨(gW (gT2 (i := 117) rfl) rfl), (gW (gT2 (i := 118) rfl) rfl), rfl, Or.inl ⟨aCl_5, by rw [mC_33]; rfl, rfl, by rw [mC_33]; decide⟩⟩
set_option maxRecDepth 100000 in
theorem aA_34 : aMt[34]? = some aM_34 := rfl
theorem fM_34 : FM aM_34 := ⟨rfl, by decide, (plainFor_of_name rfl), by decide +kernel, by decide +kernel, by decide +kernel⟩
theorem fC_34 : FC aM_34 := ⟨(gW (gT2 (i := 123) rfl) rfl), (gW (gT1 (i := 8) rfl) rfl)⟩
theorem mC_34 : mCl 34 = 6 := by decide +kernel
theorem fV_34 : FV 34 aM_34 := ⟨(gW (gT2 (i := 121) rfl) rfl), (gW (gT2 (i := 122) rfl) rfl), rfl, Or.inl ⟨aCl_5, by rw [mC_34]; rfl, rfl, by rw [mC_34]; decide⟩⟩
set_option maxRecDepth 100000 in
theorem aA_35 : aMt[35]? = some aM_35 := rfl
theorem fM_35 : FM aM_35 := ⟨rfl, by decide, (plainFor_of_name rfl), by decide +kernel, by decide +kernel, by decide +kernel⟩
theorem fC_35 : FC aM_35 := ⟨(gW (gT2 (i := 127) rfl) rfl), (gW (gT1 (i := 12) rfl) rfl)⟩
theorem fS_35 : FS aM_35 := ⟨(gW (gT2 (i := 126) rfl) rfl), rfl⟩
set_option maxRecDepth 100000 in
theorem aA_36 : aMt[36]? = some aM_36 := rfl
theorem fM_36 : FM aM_36 := ⟨rfl, by decide, (plainFor_of_name rfl), by decide +kernel, by decide +kernel, by decide +kernel⟩
theorem fC_36 : FC aM_36 := ⟨(gW (gT2 (i := 130) rfl) rfl), (gW (gT1 (i := 12) rfl) rfl)⟩
theorem fS_36 : FS aM_36 := ⟨(gW (gT2 (i := 129) rfl) rfl), rfl⟩
set_option maxRecDepth 100000 in
theorem aA_37 : aMt[37]? = some aM_37 := rfl
theorem fM_37 : FM aM_37 := ⟨rfl, by decide, (plainFor_of_name rfl), by decide +kernel, by decide +kernel, by decide +kernel⟩
theorem fC_37 : FC aM_37 := ⟨(gW (gT2 (i := 133) rfl) rfl), (gW (gT1 (i := 11) rfl) rfl)⟩
theorem fS_37 : FS aM_37 := ⟨(gW (gT2 (i := 132) rfl) rfl), rfl⟩
set_option maxRecDepth 100000 in
theorem aA_38 : aMt[38]? = some aM_38 := rfl
theorem fM_38 : FM aM_38 := ⟨rfl, by decide, (plainFor_of_name rfl), by decide +kernel, by decide +kernel, by decide +kernel⟩
theorem fC_38 : FC aM_38 := ⟨(gW (gT2 (i := 136) rfl) rfl), (gW (gT1 (i := 3) rfl) rfl)⟩
theorem fS_38 : FS aM_38 := ⟨(gW (gT2 (i := 135) rfl) rfl), rfl⟩
set_option maxRecDepth 100000 in
theorem aA_39 : aMt[39]? = some aM_39 := rfl
theorem fM_39 : FM aM_39 := ⟨rfl, by decide, (plainFor_of_name rfl), by decide +kernel, by decide +kernel, by decide +kernel⟩
theorem fC_39 : FC aM_39 := ⟨(gW (gT2 (i := 139) rfl) rfl), (gW (gT1 (i := 3) rfl) rfl)⟩
theorem fS_39 : FS aM_39 := ⟨(gW (gT2 (i := 138) rfl) rfl), rfl⟩
set_option maxRecDepth 100000 in
theorem aA_40 : aMt[40]? = some aM_40 := rfl
theorem fM_40 : FM aM_40 := ⟨rfl, by decide, (plainFor_of_name rfl), by decide +kernel, by decide +kernel, by decide +kernel⟩
theorem fC_40 : FC aM_40 := ⟨(gW (gT2 (i := 143) rfl) rfl), (gW (gT1 (i := 12) rfl) rfl)⟩
theorem fS_40 : FS aM_40 := ⟨(gW (gT2 (i := 142) rfl) rfl), rfl⟩
set_option maxRecDepth 100000 in
theorem aA_41 : aMt[41]? = some aM_41 := rfl
theorem fM_41 : FM aM_41 := ⟨rfl, by decide, (plainFor_of_name rfl), by decide +kernel, by decide +kernel, by decide +kernel⟩
theorem fC_41 : FC aM_41 := ⟨(gW (gT2 (i := 147) rfl) rfl), (gW (gT1 (i := 12) rfl) rfl)⟩
theorem fS_41 : FS aM_41 := ⟨(gW (gT2 (i := 146) rfl) rfl), rfl⟩
set_option maxRecDepth 100000 in
theorem aA_42 : aMt[42]? = some aM_42 := rfl
theorem fM_42 : FM aM_42 := ⟨rfl, by decide, (aMathPlain rfl rfl), by decide +kernel, by decide +kernel, by decide +kernel⟩
theorem fC_42 : FC aM_42 := ⟨(gW (gT2 (i := 151) rfl) rfl), (gW (gT1 (i := 13) rfl) rfl)⟩
theorem fS_42 : FS aM_42 := ⟨(gW (gT2 (i := 150) rfl) rfl), rfl⟩
set_option maxRecDepth 100000 in
theorem aA_43 : aMt[43]? = some aM_43 := rfl
theorem fM_43 : FM aM_43 := ⟨rfl, by decide, (plainFor_of_name rfl), by decide +kernel, by decide +kernel, by decide +kernel⟩
theorem fC_43 : FC aM_43 := ⟨(gW (gT2 (i := 154) rfl) rfl), (gW (gT1 (i := 3) rfl) rfl)⟩
theorem fS_43 : FS aM_43 := ⟨(gW (gT2 (i := 153) rfl) rfl), rfl⟩
set_option maxRecDepth 100000 in
theorem aA_44 : aMt[44]? = some aM_44 := rfl
theorem fM_44 : FM aM_44 := ⟨rfl, by decide, (plainFor_of_name rfl), by decide +kernel, by decide +kernel, by decide +kernel⟩
theorem fC_44 : FC aM_44 := ⟨(gW (gT2 (i := 158) rfl) rfl), (gW (gT1 (i := 3) rfl) rfl)⟩
theorem fS_44 : FS aM_44 := ⟨(gW (gT2 (i := 157) rfl) rfl), rfl⟩
set_option maxRecDepth 100000 in
theorem aA_45 : aMt[45]? = some aM_45 := rfl
theorem fM_45 : FM aM_45 := ⟨rfl, by decide, (plainFor_of_name rfl), by decide +kernel, by decide +kernel, by decide +kernel⟩
theorem fC_45 : FC aM_45 := ⟨(gW (gT2 (i := 162) rfl) rfl), (gW (gT1 (i := 3) rfl) rfl)⟩
theorem fS_45 : FS aM_45 := ⟨(gW (gT2 (i := 161) rfl) rfl), rfl⟩
set_option maxRecDepth 100000 in
theorem aA_46 : aMt[46]? = some aM_46 := rfl
theorem fM_46 : FM aM_46 := ⟨rfl, by decide, (plainFor_of_name rfl), by decide +kernel, by decide +kernel, by decide +kernel⟩
theorem fC_46 : FC aM_46 := ⟨(gW (gT2 (i := 165) rfl) rfl), (gW (gT1 (i := 12) rfl) rfl)⟩
theorem fS_46 : FS aM_46 := ⟨(gW (gT2 (i := 164) rfl) rfl), rfl⟩
set_option maxRecDepth 100000 in
theorem aA_47 : aMt[47]? = some aM_47 := rfl
theorem fM_47 : FM aM_47 := ⟨rfl, by decide, (plainFor_of_name rfl), by decide +kernel, by decide +kernel, by decide +kernel⟩
theorem fC_47 : FC aM_47 := ⟨(gW (gT2 (i := 169) rfl) rfl), (gW (gT1 (i := 7) rfl) rfl)⟩
theorem mC_47 : mCl 47 = 4 := by decide +kernel
theorem fV_47 : FV 47 aM_47 := ⟨(gW (gT2 (i := 167) rfl) rfl), (gW (gT2 (i := 168) rfl) rfl), rfl, Or.inl ⟨aCl_3, by rw [mC_47]; rfl, rfl, by rw [mC_47]; decide⟩⟩
set_option maxRecDepth 100000 in
theorem aA_48 : aMt[48]? = some aM_48 := rfl
theorem fM_48 : FM aM_48 := ⟨rfl, by decide, (plainFor_of_name rfl), by decide +kernel, by decide +kernel, by decide +kernel⟩
theorem fC_48 : FC aM_48 := ⟨(gW (gT2 (i := 173) rfl) rfl), (gW (gT1 (i := 11) rfl) rfl)⟩
theorem fS_48 : FS aM_48 := ⟨(gW (gT2 (i := 172) rfl) rfl), rfl⟩
set_option maxRecDepth 100000 in
theorem aA_49 : aMt[49]? = some aM_49 := rfl
theorem fM_49 : FM aM_49 := ⟨rfl, by decide, (aMathPlain rfl rfl), by decide +kernel, by decide +kernel, by decide +kernel⟩
theorem fC_49 : FC aM_49 := ⟨(gW (gT2 (i := 176) rfl) rfl), (gW (gT1 (i := 13) rfl) rfl)⟩
theorem fS_49 : FS aM_49 := ⟨(gW (gT2 (i := 175) rfl) rfl), rfl⟩
set_option maxRecDepth 100000 in
theorem aA_50 : aMt[50]? = some aM_50 := rfl
theorem fM_50 : FM aM_50 := ⟨rfl, by decide, (plainFor_of_name rfl), by decide +kernel, by decide +kernel, by decide +kernel⟩
theorem fC_50 : FC aM_50 := ⟨(gW (gT2 (i := 183) rfl) rfl), (gW (gT1 (i := 11) rfl) rfl)⟩
theorem fS_50 : FS aM_50 := ⟨(gW (gT2 (i := 182) rfl) rfl), rfl⟩
set_option maxRecDepth 100000 in
theorem aA_51 : aMt[51]? = some aM_51 := rfl
theorem fM_51 : FM aM_51 := ⟨rfl, by decide, (plainFor_of_name rfl), by decide +kernel, by decide +kernel, by decide +kernel⟩
theorem fC_51 : FC aM_51 := ⟨(gW (gT2 (i := 187) rfl) rfl), (gW (gT1 (i := 7) rfl) rfl)⟩
theorem mC_51 : mCl 51 = 4 := by decide +kernel
theorem fV_51 : FV 51 aM_51 := ⟨(gW (gT2 (i := 185) rfl) rfl), (gW (gT2 (i := 186) rfl) rfl), rfl, Or.inl ⟨aCl_3, by rw [mC_51]; rfl, rfl, by rw [mC_51]; decide⟩⟩
set_option maxRecDepth 100000 in
theorem aA_52 : aMt[52]? = some aM_52 := rfl
theorem fM_52 : FM aM_52 := ⟨rfl, by decide, (plainFor_of_name rfl), by decide +kernel, by decide +kernel, by decide +kernel⟩
theorem fC_52 : FC aM_52 := ⟨(gW (gT2 (i := 191) rfl) rfl), (gW (gT1 (i := 7) rfl) rfl)⟩
theorem mC_52 : mCl 52 = 4 := by decide +kernel
theorem fV_52 : FV 52 aM_52 := ⟨(gW (gT2 (i := 189) rfl) rfl), (gW (gT2 (i := 190) rfl) rfl), rfl, Or.inl ⟨aCl_3, by rw [mC_52]; rfl, rfl, by rw [mC_52]; decide⟩⟩
set_option maxRecDepth 100000 in
theorem aA_53 : aMt[53]? = some aM_53 := rfl
theorem fM_53 : FM aM_53 := ⟨rfl, by decide, (plainFor_of_name rfl), by decide +kernel, by decide +kernel, by decide +kernel⟩
theorem fC_53 : FC aM_53 := ⟨(gW (gT2 (i := 196) rfl) rfl), (gW (gT1 (i := 2) rfl) rfl)⟩
theorem mC_53 : mCl 53 = 3 := by decide +kernel
theorem fV_53 : FV 53 aM_53 := ⟨(gW (gT2 (i := 194) rfl) rfl), (gW (gT2 (i := 195) rfl) rfl), rfl, Or.inl ⟨aCl_2, by rw [mC_53]; rfl, rfl, by rw [mC_53]; decide⟩⟩
set_option maxRecDepth 100000 in
theorem aA_54 : aMt[54]? = some aM_54 := rfl
theorem fM_54 : FM aM_54 := ⟨rfl, by decide, (plainFor_of_name rfl), by decide +kernel, by decide +kernel, by decide +kernel⟩
theorem fC_54 : FC aM_54 := ⟨(gW (gT2 (i := 200) rfl) rfl), (gW (gT1 (i := 2) rfl) rfl)⟩
theorem mC_54 : mCl 54 = 3 := by decide +kernel
theorem fV_54 : FV 54 aM_54 := ⟨(gW (gT2 (i := 198) rfl) rfl), (gW (gT2 (i := 199) rfl) rfl), rfl, Or.inl ⟨aCl_2, by rw [mC_54]; rfl, rfl, by rw [mC_54]; decide⟩⟩
set_option maxRecDepth 100000 in
theorem aA_55 : aMt[55]? = some aM_55 := rfl
theorem fM_55 : FM aM_55 := ⟨rfl, by decide, (plainFor_of_name rfl), by decide +kernel, by decide +kernel, by decide +kernel⟩
theorem fC_55 : FC aM_55 := ⟨(gW (gT2 (i := 204) rfl) rfl), (gW (gT1 (i := 2) rfl) rfl)⟩
theorem mC_55 : mCl 55 = 3 := by decide +kernel
theorem fV_55 : FV 55 aM_55 := ⟨(gW (gT2 (i := 202) rfl) rfl), (gW (gT2 (i := 203) rfl) rfl), rfl, Or.inl ⟨aCl_2, by rw [mC_55]; rfl, rfl, by rw [mC_55]; decide⟩⟩
set_option maxRecDepth 100000 in
theorem aA_56 : aMt[56]? = some aM_56 := rfl
theorem fM_56 : FM aM_56 := ⟨rfl, by decide, (plainFor_of_name rfl), by decide +kernel, by decide +kernel, by decide +kernel⟩
theorem fC_56 : FC aM_56 := ⟨(gW (gT2 (i := 208) rfl) rfl), (gW (gT1 (i := 2) rfl) rfl)⟩
theorem mC_56 : mCl 56 = 3 := by decide +kernel
theorem fV_56 : FV 56 aM_56 := ⟨(gW (gT2 (i := 206) rfl) rfl), (gW (gT2 (i := 207) rfl) rfl), rfl, Or.inl ⟨aCl_2, by rw [mC_56]; rfl, rfl, by rw [mC_56]; decide⟩⟩
set_option maxRecDepth 100000 in
theorem aA_57 : aMt[57]? = some aM_57 := rfl
theorem fM_57 : FM aM_57 := ⟨rfl, by decide, (plainFor_of_name rfl), by decide +kernel, by decide +kernel, by decide +kernel⟩
theorem fC_57 : FC aM_57 := ⟨(gW (gT2 (i := 213) rfl) rfl), (gW (gT1 (i := 7) rfl) rfl)⟩
theorem mC_57 : mCl 57 = 4 := by decide +kernel
theorem fV_57 : FV 57 aM_57 := ⟨(gW (gT2 (i := 211) rfl) rfl), (gW (gT2 (i := 212) rfl) rfl), rfl, Or.inl ⟨aCl_3, by rw [mC_57]; rfl, rfl, by rw [mC_57]; decide⟩⟩
set_option maxRecDepth 100000 in
theorem aA_58 : aMt[58]? = some aM_58 := rfl
theorem fM_58 : FM aM_58 := ⟨rfl, by decide, (plainFor_of_name rfl), by decide +kernel, by decide +kernel, by decide +kernel⟩
theorem fC_58 : FC aM_58 := ⟨(gW (gT2 (i := 217) rfl) rfl), (gW (gT1 (i := 8) rfl) rfl)⟩
theorem mC_58 : mCl 58 = 6 := by decide +kernel
theorem fV_58 : FV 58 aM_58 := ⟨(gW (gT2 (i := 215) rfl) rfl), (gW (gT2 (i := 216) rfl) rfl), rfl, Or.inl ⟨aCl_5, by rw [mC_58]; rfl, rfl, by rw [mC_58]; decide⟩⟩
set_option maxRecDepth 100000 in
theorem aA_59 : aMt[59]? = some aM_59 := rfl
theorem fM_59 : FM aM_59 := ⟨rfl, by decide, (plainFor_of_name rfl), by decide +kernel, by decide +kernel, by decide +kernel⟩
theorem fC_59 : FC aM_59 := ⟨(gW (gT2 (i := 224) rfl) rfl), (gW (gT1 (i := 2) rfl) rfl)⟩
theorem mC_59 : mCl 59 = 3 := by decide +kernel
theorem fV_59 : FV 59 aM_59 := ⟨(gW (gT2 (i := 223) rfl) rfl), (gW (gT0 (i := 6) rfl) rfl), rfl, Or.inl ⟨aCl_2, by rw [mC_59]; rfl, rfl, by rw [mC_59]; decide⟩⟩
set_option maxRecDepth 100000 in
theorem aA_60 : aMt[60]? = some aM_60 := rfl
theorem fM_60 : FM aM_60 := ⟨rfl, by decide, (plainFor_of_name rfl), by decide +kernel, by decide +kernel, by decide +kernel⟩
theorem fC_60 : FC aM_60 := ⟨(gW (gT2 (i := 232) rfl) rfl), (gW (gT1 (i := 2) rfl) rfl)⟩
theorem mC_60 : mCl 60 = 3 := by decide +kernel
theorem fV_60 : FV 60 aM_60 := ⟨(gW (gT2 (i := 230) rfl) rfl), (gW (gT2 (i := 231) rfl) rfl), rfl, Or.inl ⟨aCl_2, by rw [mC_60]; rfl, rfl, by rw [mC_60]; decide⟩⟩
set_option maxRecDepth 100000 in
theorem aA_61 : aMt[61]? = some aM_61 := rfl
theorem fM_61 : FM aM_61 := ⟨rfl, by decide, (aMathPlain rfl rfl), by decide +kernel, by decide +kernel, by decide +kernel⟩
theorem fC_61 : FC aM_61 := ⟨(gW (gT2 (i := 235) rfl) rfl), (gW (gT1 (i := 13) rfl) rfl)⟩
theorem fS_61 : FS aM_61 := ⟨(gW (gT2 (i := 234) rfl) rfl), rfl⟩
set_option maxRecDepth 100000 in
theorem aA_62 : aMt[62]? = some aM_62 := rfl
theorem fM_62 : FM aM_62 := ⟨rfl, by decide, (plainFor_of_name rfl), by decide +kernel, by decide +kernel, by decide +kernel⟩
theorem fC_62 : FC aM_62 := ⟨(gW (gT2 (i := 239) rfl) rfl), (gW (gT1 (i := 1) rfl) rfl)⟩
theorem mC_62 : mCl 62 = 9 := by decide +kernel
theorem fV_62 : FV 62 aM_62 := ⟨(gW (gT2 (i := 237) rfl) rfl), (gW (gT2 (i := 238) rfl) rfl), rfl, Or.inl ⟨aCl_8, by rw [mC_62]; rfl, rfl, by rw [mC_62]; decide⟩⟩
set_option maxRecDepth 100000 in
theorem aA_63 : aMt[63]? = some aM_63 := rfl
theorem fM_63 : FM aM_63 := ⟨rfl, by decide, (plainFor_of_name rfl), by decide +kernel, by decide +kernel, by decide +kernel⟩
theorem fC_63 : FC aM_63 := ⟨(gW (gT3 (i := 3) rfl) rfl), (gW (gT1 (i := 5) rfl) rfl)⟩
theorem mC_63 : mCl 63 = 8 := by decide +kernel
theorem fV_63 : FV 63 aM_63 := ⟨(gW (gT3 (i := 1) rfl) rfl), (gW (gT3 (i := 2) rfl) rfl), rfl, Or.inl ⟨aCl_7, by rw [mC_63]; rfl, rfl, by rw [mC_63]; decide⟩⟩
set_option maxRecDepth 100000 in
theorem aA_64 : aMt[64]? = some aM_64 := rfl
theorem fM_64 : FM aM_64 := ⟨rfl, by decide, (plainFor_of_name rfl), by decide +kernel, by decide +kernel, by decide +kernel⟩
theorem fC_64 : FC aM_64 := ⟨(gW (gT3 (i := 7) rfl) rfl), (gW (gT1 (i := 5) rfl) rfl)⟩
theorem mC_64 : mCl 64 = 8 := by decide +kernel
theorem fV_64 : FV 64 aM_64 := ⟨(gW (gT3 (i := 5) rfl) rfl), (gW (gT3 (i := 6) rfl) rfl), rfl, Or.inl ⟨aCl_7, by rw [mC_64]; rfl, rfl, by rw [mC_64]; decide⟩⟩
set_option maxRecDepth 100000 in
theorem aA_65 : aMt[65]? = some aM_65 := rfl
theorem fM_65 : FM aM_65 := ⟨rfl, by decide, (plainFor_of_name rfl), by decide +kernel, by decide +kernel, by decide +kernel⟩
theorem fC_65 : FC aM_65 := ⟨(gW (gT3 (i := 11) rfl) rfl), (gW (gT1 (i := 1) rfl) rfl)⟩
theorem mC_65 : mCl 65 = 9 := by decide +kernel
theorem fV_65 : FV 65 aM_65 := ⟨(gW (gT3 (i := 9) rfl) rfl), (gW (gT3 (i := 10) rfl) rfl), rfl, Or.inl ⟨aCl_8, by rw [mC_65]; rfl, rfl, by rw [mC_65]; decide⟩⟩
set_option maxRecDepth 100000 in
theorem aA_66 : aMt[66]? = some aM_66 := rfl
theorem fM_66 : FM aM_66 := ⟨rfl, by decide, (plainFor_of_name rfl), by decide +kernel, by decide +kernel, by decide +kernel⟩
theorem fC_66 : FC aM_66 := ⟨(gW (gT3 (i := 15) rfl) rfl), (gW (gT1 (i := 1) rfl) rfl)⟩
theorem mC_66 : mCl 66 = 9 := by decide +kernel
theorem fV_66 : FV 66 aM_66 := ⟨(gW (gT3 (i := 13) rfl) rfl), (gW (gT3 (i := 14) rfl) rfl), rfl, Or.inl ⟨aCl_8, by rw [mC_66]; rfl, rfl, by rw [mC_66]; decide⟩⟩
set_option maxRecDepth 100000 in
theorem aA_67 : aMt[67]? = some aM_67 := rfl
theorem fM_67 : FM aM_67 := ⟨rfl, by decide, (plainFor_of_name rfl), by decide +kernel, by decide +kernel, by decide +kernel⟩
theorem fC_67 : FC aM_67 := ⟨(gW (gT3 (i := 19) rfl) rfl), (gW (gT1 (i := 6) rfl) rfl)⟩
theorem mC_67 : mCl 67 = 5 := by decide +kernel
theorem fV_67 : FV 67 aM_67 := ⟨(gW (gT3 (i := 17) rfl) rfl), (gW (gT3 (i := 18) rfl) rfl), rfl, Or.inl ⟨aCl_4, by rw [mC_67]; rfl, rfl, by rw [mC_67]; decide⟩⟩
set_option maxRecDepth 100000 in
theorem aA_68 : aMt[68]? = some aM_68 := rfl
theorem fM_68 : FM aM_68 := ⟨rfl, by decide, (plainFor_of_name rfl), by decide +kernel, by decide +kernel, by decide +kernel⟩
theorem fC_68 : FC aM_68 := ⟨(gW (gT3 (i := 23) rfl) rfl), (gW (gT1 (i := 6) rfl) rfl)⟩
theorem mC_68 : mCl 68 = 5 := by decide +kernel
theorem fV_68 : FV 68 aM_68 := ⟨(gW (gT3 (i := 22) rfl) rfl), (gW (gT0 (i := 7) rfl) rfl), rfl, Or.inl ⟨aCl_4, by rw [mC_68]; rfl, rfl, by rw [mC_68]; decide⟩⟩
set_option maxRecDepth 100000 in
theorem aA_69 : aMt[69]? = some aM_69 := rfl
theorem fM_69 : FM aM_69 := ⟨rfl, by decide, (plainFor_of_name rfl), by decide +kernel, by decide +kernel, by decide +kernel⟩
theorem fC_69 : FC aM_69 := ⟨(gW (gT3 (i := 26) rfl) rfl), (gW (gT1 (i := 6) rfl) rfl)⟩
theorem fS_69 : FS aM_69 := ⟨(gW (gT3 (i := 25) rfl) rfl), rfl⟩
set_option maxRecDepth 100000 in
theorem aA_70 : aMt[70]? = some aM_70 := rfl
theorem fM_70 : FM aM_70 := ⟨rfl, by decide, (plainFor_of_name rfl), by decide +kernel, by decide +kernel, by decide +kernel⟩
theorem fC_70 : FC aM_70 := ⟨(gW (gT3 (i := 30) rfl) rfl), (gW (gT1 (i := 6) rfl) rfl)⟩
theorem mC_70 : mCl 70 = 5 := by decide +kernel
theorem fV_70 : FV 70 aM_70 := ⟨(gW (gT3 (i := 29) rfl) rfl), (gW (gT0 (i := 8) rfl) rfl), rfl, Or.inl ⟨aCl_4, by rw [mC_70]; rfl, rfl, by rw [mC_70]; decide⟩⟩
set_option maxRecDepth 100000 in
theorem aA_71 : aMt[71]? = some aM_71 := rfl
theorem fM_71 : FM aM_71 := ⟨rfl, by decide, (plainFor_of_name rfl), by decide +kernel, by decide +kernel, by decide +kernel⟩
theorem fC_71 : FC aM_71 := ⟨(gW (gT3 (i := 34) rfl) rfl), (gW (gT1 (i := 6) rfl) rfl)⟩
theorem mC_71 : mCl 71 = 5 := by decide +kernel
theorem fV_71 : FV 71 aM_71 := ⟨(gW (gT3 (i := 33) rfl) rfl), (gW (gT0 (i := 9) rfl) rfl), rfl, Or.inl ⟨aCl_4, by rw [mC_71]; rfl, rfl, by rw [mC_71]; decide⟩⟩
set_option maxRecDepth 100000 in
theorem aA_72 : aMt[72]? = some aM_72 := rfl
theorem fM_72 : FM aM_72 := ⟨rfl, by decide, (plainFor_of_name rfl), by decide +kernel, by decide +kernel, by decide +kernel⟩
theorem fC_72 : FC aM_72 := ⟨(gW (gT3 (i := 37) rfl) rfl), (gW (gT1 (i := 9) rfl) rfl)⟩
theorem fS_72 : FS aM_72 := ⟨(gW (gT3 (i := 36) rfl) rfl), rfl⟩
set_option maxRecDepth 100000 in
theorem aA_73 : aMt[73]? = some aM_73 := rfl
theorem fM_73 : FM aM_73 := ⟨rfl, by decide, (plainFor_of_name rfl), by decide +kernel, by decide +kernel, by decide +kernel⟩
theorem fC_73 : FC aM_73 := ⟨(gW (gT3 (i := 46) rfl) rfl), (gW (gT1 (i := 6) rfl) rfl)⟩
theorem mC_73 : mCl 73 = 5 := by decide +kernel
theorem fV_73 : FV 73 aM_73 := ⟨(gW (gT3 (i := 45) rfl) rfl), (gW (gT0 (i := 10) rfl) rfl), rfl, Or.inl ⟨aCl_4, by rw [mC_73]; rfl, rfl, by rw [mC_73]; decide⟩⟩
set_option maxRecDepth 100000 in
theorem aA_74 : aMt[74]? = some aM_74 := rfl
theorem fM_74 : FM aM_74 := ⟨rfl, by decide, (plainFor_of_name rfl), by decide +kernel, by decide +kernel, by decide +kernel⟩
theorem fC_74 : FC aM_74 := ⟨(gW (gT3 (i := 50) rfl) rfl), (gW (gT1 (i := 15) rfl) rfl)⟩
theorem mC0_74 : mCl 74 = 0 := by decide +kernel
theorem fV_74 : FV 74 aM_74 := ⟨(gW (gT3 (i := 48) rfl) rfl), (gW (gT3 (i := 49) rfl) rfl), rfl, Or.inr ⟨mC0_74, rfl⟩⟩
set_option maxRecDepth 100000 in
theorem aA_75 : aMt[75]? = some aM_75 := rfl
theorem fM_75 : FM aM_75 := ⟨rfl, by decide, (plainFor_of_name rfl), by decide +kernel, by decide +kernel, by decide +kernel⟩
theorem fC_75 : FC aM_75 := ⟨(gW (gT3 (i := 54) rfl) rfl), (gW (gT1 (i := 15) rfl) rfl)⟩
theorem mC0_75 : mCl 75 = 0 := by decide +kernel
theorem fV_75 : FV 75 aM_75 := ⟨(gW (gT3 (i := 52) rfl) rfl), (gW (gT3 (i := 53) rfl) rfl), rfl, Or.inr ⟨mC0_75, rfl⟩⟩
set_option maxRecDepth 100000 in
theorem aA_76 : aMt[76]? = some aM_76 := rfl
theorem fM_76 : FM aM_76 := ⟨rfl, by decide, (plainFor_of_name rfl), by decide +kernel, by decide +kernel, by decide +kernel⟩
theorem fC_76 : FC aM_76 := ⟨(gW (gT3 (i := 60) rfl) rfl), (gW (gT1 (i := 15) rfl) rfl)⟩
theorem mC0_76 : mCl 76 = 0 := by decide +kernel
theorem fV_76 : FV 76 aM_76 := ⟨(gW (gT3 (i := 58) rfl) rfl), (gW (gT3 (i := 59) rfl) rfl), rfl, Or.inr ⟨mC0_76, rfl⟩⟩
set_option maxRecDepth 100000 in
theorem aA_77 : aMt[77]? = some aM_77 := rfl
theorem fM_77 : FM aM_77 := ⟨rfl, by decide, (plainFor_of_name rfl), by decide +kernel, by decide +kernel, by decide +kernel⟩
theorem fC_77 : FC aM_77 := ⟨(gW (gT3 (i := 64) rfl) rfl), (gW (gT1 (i := 15) rfl) rfl)⟩
theorem mC0_77 : mCl 77 = 0 := by decide +kernel
theorem fV_77 : FV 77 aM_77 := ⟨(gW (gT3 (i := 62) rfl) rfl), (gW (gT3 (i := 63) rfl) rfl), rfl, Or.inr ⟨mC0_77, rfl⟩⟩
set_option maxRecDepth 100000 in
theorem aA_78 : aMt[78]? = some aM_78 := rfl
theorem fM_78 : FM aM_78 := ⟨rfl, by decide, (plainFor_of_name rfl), by decide +kernel, by decide +kernel, by decide +kernel⟩
theorem fC_78 : FC aM_78 := ⟨(gW (gT3 (i := 67) rfl) rfl), (gW (gT1 (i := 16) rfl) rfl)⟩
theorem fS_78 : FS aM_78 := ⟨(gW (gT3 (i := 66) rfl) rfl), rfl⟩
set_option maxRecDepth 100000 in
theorem aA_79 : aMt[79]? = some aM_79 := rfl
theorem fM_79 : FM aM_79 := ⟨rfl, by decide, (plainFor_of_name rfl), by decide +kernel, by decide +kernel, by decide +kernel⟩
theorem fC_79 : FC aM_79 := ⟨(gW (gT3 (i := 70) rfl) rfl), (gW (gT1 (i := 15) rfl) rfl)⟩
theorem fS_79 : FS aM_79 := ⟨(gW (gT3 (i := 69) rfl) rfl), rfl⟩
set_option maxRecDepth 100000 in
theorem aA_80 : aMt[80]? = some aM_80 := rfl
theorem fM_80 : FM aM_80 := ⟨rfl, by decide, (plainFor_of_name rfl), by decide +kernel, by decide +kernel, by decide +kernel⟩
theorem fC_80 : FC aM_80 := ⟨(gW (gT3 (i := 75) rfl) rfl), (gW (gT1 (i := 17) rfl) rfl)⟩
theorem fS_80 : FS aM_80 := ⟨(gW (gT3 (i := 74) rfl) rfl), rfl⟩
set_option maxRecDepth 100000 in
theorem aA_81 : aMt[81]? = some aM_81 := rfl
theorem fM_81 : FM aM_81 := ⟨rfl, by decide, (plainFor_of_name rfl), by decide +kernel, by decide +kernel, by decide +kernel⟩
theorem fC_81 : FC aM_81 := ⟨(gW (gT3 (i := 99) rfl) rfl), (gW (gT1 (i := 6) rfl) rfl)⟩
theorem mC_81 : mCl 81 = 5 := by decide +kernel
theorem fV_81 : FV 81 aM_81 := ⟨(gW (gT3 (i := 98) rfl) rfl), (gW (gT0 (i := 11) rfl) rfl), rfl, Or.inl ⟨aCl_4, by rw [mC_81]; rfl, rfl, by rw [mC_81]; decide⟩⟩
set_option maxRecDepth 100000 in
theorem aA_82 : aMt[82]? = some aM_82 := rfl
theorem fM_82 : FM aM_82 := ⟨rfl, by decide, (plainFor_of_name rfl), by decide +kernel, by decide +kernel, by decide +kernel⟩
theorem fC_82 : FC aM_82 := ⟨(gW (gT3 (i := 105) rfl) rfl), (gW (gT1 (i := 6) rfl) rfl)⟩
theorem mC_82 : mCl 82 = 5 := by decide +kernel
theorem fV_82 : FV 82 aM_82 := ⟨(gW (gT3 (i := 104) rfl) rfl), (gW (gT0 (i := 12) rfl) rfl), rfl, Or.inl ⟨aCl_4, by rw [mC_82]; rfl, rfl, by rw [mC_82]; decide⟩⟩
set_option maxRecDepth 100000 in
theorem aA_83 : aMt[83]? = some aM_83 := rfl
theorem fM_83 : FM aM_83 := ⟨rfl, by decide, (plainFor_of_name rfl), by decide +kernel, by decide +kernel, by decide +kernel⟩
theorem fC_83 : FC aM_83 := ⟨(gW (gT3 (i := 110) rfl) rfl), (gW (gT1 (i := 6) rfl) rfl)⟩
theorem mC_83 : mCl 83 = 5 := by decide +kernel
theorem fV_83 : FV 83 aM_83 := ⟨(gW (gT3 (i := 109) rfl) rfl), (gW (gT0 (i := 13) rfl) rfl), rfl, Or.inl ⟨aCl_4, by rw [mC_83]; rfl, rfl, by rw [mC_83]; decide⟩⟩
set_option maxRecDepth 100000 in
theorem aA_84 : aMt[84]? = some aM_84 := rfl
theorem fM_84 : FM aM_84 := ⟨rfl, by decide, (plainFor_of_name rfl), by decide +kernel, by decide +kernel, by decide +kernel⟩
theorem fC_84 : FC aM_84 := ⟨(gW (gT3 (i := 115) rfl) rfl), (gW (gT1 (i := 6) rfl) rfl)⟩
theorem mC_84 : mCl 84 = 5 := by decide +kernel
theorem fV_84 : FV 84 aM_84 := ⟨(gW (gT3 (i := 114) rfl) rfl), (gW (gT0 (i := 14) rfl) rfl), rfl, Or.inl ⟨aCl_4, by rw [mC_84]; rfl, rfl, by rw [mC_84]; decide⟩⟩
set_option maxRecDepth 100000 in
theorem aA_85 : aMt[85]? = some aM_85 := rfl
theorem fM_85 : FM aM_85 := ⟨rfl, by decide, (plainFor_of_name rfl), by decide +kernel, by decide +kernel, by decide +kernel⟩
theorem fC_85 : FC aM_85 := ⟨(gW (gT3 (i := 120) rfl) rfl), (gW (gT1 (i := 6) rfl) rfl)⟩
theorem mC_85 : mCl 85 = 5 := by decide +kernel
theorem fV_85 : FV 85 aM_85 := ⟨(gW (gT3 (i := 119) rfl) rfl), (gW (gT0 (i := 15) rfl) rfl), rfl, Or.inl ⟨aCl_4, by rw [mC_85]; rfl, rfl, by rw [mC_85]; decide⟩⟩
set_option maxRecDepth 100000 in
theorem aA_86 : aMt[86]? = some aM_86 := rfl
theorem fM_86 : FM aM_86 := ⟨rfl, by decide, (plainFor_of_name rfl), by decide +kernel, by decide +kernel, by decide +kernel⟩
theorem fC_86 : FC aM_86 := ⟨(gW (gT3 (i := 124) rfl) rfl), (gW (gT1 (i := 6) rfl) rfl)⟩
theorem mC_86 : mCl 86 = 5 := by decide +kernel
theorem fV_86 : FV 86 aM_86 := ⟨(gW (gT3 (i := 123) rfl) rfl), (gW (gT0 (i := 16) rfl) rfl), rfl, Or.inl ⟨aCl_4, by rw [mC_86]; rfl, rfl, by rw [mC_86]; decide⟩⟩
set_option maxRecDepth 100000 in
theorem aA_87 : aMt[87]? = some aM_87 := rfl
theorem fM_87 : FM aM_87 := ⟨rfl, by decide, (plainFor_of_name rfl), by decide +kernel, by decide +kernel, by decide +kernel⟩
theorem fC_87 : FC aM_87 := ⟨(gW (gT3 (i := 132) rfl) rfl), (gW (gT1 (i := 2) rfl) rfl)⟩
theorem mC_87 : mCl 87 = 3 := by decide +kernel
theorem fV_87 : FV 87 aM_87 := ⟨(gW (gT3 (i := 130) rfl) rfl), (gW (gT3 (i := 131) rfl) rfl), rfl, Or.inl ⟨aCl_2, by rw [mC_87]; rfl, rfl, by rw [mC_87]; decide⟩⟩
set_option maxRecDepth 100000 in
theorem aA_88 : aMt[88]? = some aM_88 := rfl
theorem fM_88 : FM aM_88 := ⟨rfl, by decide, (plainFor_of_name rfl), by decide +kernel, by decide +kernel, by decide +kernel⟩
theorem fC_88 : FC aM_88 := ⟨(gW (gT3 (i := 136) rfl) rfl), (gW (gT1 (i := 2) rfl) rfl)⟩
theorem mC_88 : mCl 88 = 3 := by decide +kernel
theorem fV_88 : FV 88 aM_88 := ⟨(gW (gT3 (i := 135) rfl) rfl), (gW (gT0 (i := 17) rfl) rfl), rfl, Or.inl ⟨aCl_2, by rw [mC_88]; rfl, rfl, by rw [mC_88]; decide⟩⟩
set_option maxRecDepth 100000 in
theorem aA_89 : aMt[89]? = some aM_89 := rfl
theorem fM_89 : FM aM_89 := ⟨rfl, by decide, (plainFor_of_name rfl), by decide +kernel, by decide +kernel, by decide +kernel⟩
theorem fC_89 : FC aM_89 := ⟨(gW (gT3 (i := 139) rfl) rfl), (gW (gT1 (i := 12) rfl) rfl)⟩
theorem fS_89 : FS aM_89 := ⟨(gW (gT3 (i := 138) rfl) rfl), rfl⟩
set_option maxRecDepth 100000 in
theorem aA_90 : aMt[90]? = some aM_90 := rfl
theorem fM_90 : FM aM_90 := ⟨rfl, by decide, (plainFor_of_name rfl), by decide +kernel, by decide +kernel, by decide +kernel⟩
theorem fC_90 : FC aM_90 := ⟨(gW (gT3 (i := 144) rfl) rfl), (gW (gT1 (i := 8) rfl) rfl)⟩
theorem mC_90 : mCl 90 = 6 := by decide +kernel
theorem fV_90 : FV 90 aM_90 := ⟨(gW (gT3 (i := 142) rfl) rfl), (gW (gT3 (i := 143) rfl) rfl), rfl, Or.inl ⟨aCl_5, by rw [mC_90]; rfl, rfl, by rw [mC_90]; decide⟩⟩
set_option maxRecDepth 100000 in
theorem aA_91 : aMt[91]? = some aM_91 := rfl
theorem fM_91 : FM aM_91 := ⟨rfl, by decide, (plainFor_of_name rfl), by decide +kernel, by decide +kernel, by decide +kernel⟩
theorem fC_91 : FC aM_91 := ⟨(gW (gT3 (i := 148) rfl) rfl), (gW (gT1 (i := 2) rfl) rfl)⟩
theorem mC_91 : mCl 91 = 3 := by decide +kernel
theorem fV_91 : FV 91 aM_91 := ⟨(gW (gT3 (i := 147) rfl) rfl), (gW (gT0 (i := 18) rfl) rfl), rfl, Or.inl ⟨aCl_2, by rw [mC_91]; rfl, rfl, by rw [mC_91]; decide⟩⟩
set_option maxRecDepth 100000 in
theorem aA_92 : aMt[92]? = some aM_92 := rfl
theorem fM_92 : FM aM_92 := ⟨rfl, by decide, (plainFor_of_name rfl), by decide +kernel, by decide +kernel, by decide +kernel⟩
theorem fC_92 : FC aM_92 := ⟨(gW (gT3 (i := 151) rfl) rfl), (gW (gT1 (i := 12) rfl) rfl)⟩
theorem fS_92 : FS aM_92 := ⟨(gW (gT3 (i := 150) rfl) rfl), rfl⟩
set_option maxRecDepth 100000 in
theorem aA_93 : aMt[93]? = some aM_93 := rfl
theorem fM_93 : FM aM_93 := ⟨rfl, by decide, (plainFor_of_name rfl), by decide +kernel, by decide +kernel, by decide +kernel⟩
theorem fC_93 : FC aM_93 := ⟨(gW (gT3 (i := 159) rfl) rfl), (gW (gT1 (i := 1) rfl) rfl)⟩
theorem mC_93 : mCl 93 = 9 := by decide +kernel
theorem fV_93 : FV 93 aM_93 := ⟨(gW (gT3 (i := 157) rfl) rfl), (gW (gT3 (i := 158) rfl) rfl), rfl, Or.inl ⟨aCl_8, by rw [mC_93]; rfl, rfl, by rw [mC_93]; decide⟩⟩
set_option maxRecDepth 100000 in
theorem aA_94 : aMt[94]? = some aM_94 := rfl
theorem fM_94 : FM aM_94 := ⟨rfl, by decide, (plainFor_of_name rfl), by decide +kernel, by decide +kernel, by decide +kernel⟩
theorem fC_94 : FC aM_94 := ⟨(gW (gT3 (i := 164) rfl) rfl), (gW (gT1 (i := 1) rfl) rfl)⟩
theorem fS_94 : FS aM_94 := ⟨(gW (gT3 (i := 163) rfl) rfl), rfl⟩
set_option maxRecDepth 100000 in
theorem aA_95 : aMt[95]? = some aM_95 := rfl
theorem fM_95 : FM aM_95 := ⟨rfl, by decide, (plainFor_of_name rfl), by decide +kernel, by decide +kernel, by decide +kernel⟩
theorem fC_95 : FC aM_95 := ⟨(gW (gT3 (i := 168) rfl) rfl), (gW (gT1 (i := 1) rfl) rfl)⟩
theorem mC_95 : mCl 95 = 9 := by decide +kernel
theorem fV_95 : FV 95 aM_95 := ⟨(gW (gT3 (i := 166) rfl) rfl), (gW (gT3 (i := 167) rfl) rfl), rfl, Or.inl ⟨aCl_8, by rw [mC_95]; rfl, rfl, by rw [mC_95]; decide⟩⟩
set_option maxRecDepth 100000 in
theorem aA_96 : aMt[96]? = some aM_96 := rfl
theorem fM_96 : FM aM_96 := ⟨rfl, by decide, (plainFor_of_name rfl), by decide +kernel, by decide +kernel, by decide +kernel⟩
theorem fC_96 : FC aM_96 := ⟨(gW (gT3 (i := 172) rfl) rfl), (gW (gT1 (i := 2) rfl) rfl)⟩
theorem mC_96 : mCl 96 = 3 := by decide +kernel
theorem fV_96 : FV 96 aM_96 := ⟨(gW (gT3 (i := 170) rfl) rfl), (gW (gT3 (i := 171) rfl) rfl), rfl, Or.inl ⟨aCl_2, by rw [mC_96]; rfl, rfl, by rw [mC_96]; decide⟩⟩
set_option maxRecDepth 100000 in
theorem aA_97 : aMt[97]? = some aM_97 := rfl
theorem fM_97 : FM aM_97 := ⟨rfl, by decide, (plainFor_of_name rfl), by decide +kernel, by decide +kernel, by decide +kernel⟩
theorem fC_97 : FC aM_97 := ⟨(gW (gT3 (i := 176) rfl) rfl), (gW (gT1 (i := 7) rfl) rfl)⟩
theorem mC_97 : mCl 97 = 4 := by decide +kernel
theorem fV_97 : FV 97 aM_97 := ⟨(gW (gT3 (i := 174) rfl) rfl), (gW (gT3 (i := 175) rfl) rfl), rfl, Or.inl ⟨aCl_3, by rw [mC_97]; rfl, rfl, by rw [mC_97]; decide⟩⟩
set_option maxRecDepth 100000 in
theorem aA_98 : aMt[98]? = some aM_98 := rfl
theorem fM_98 : FM aM_98 := ⟨rfl, by decide, (plainFor_of_name rfl), by decide +kernel, by decide +kernel, by decide +kernel⟩
theorem fC_98 : FC aM_98 := ⟨(gW (gT3 (i := 180) rfl) rfl), (gW (gT1 (i := 8) rfl) rfl)⟩
theorem mC_98 : mCl 98 = 6 := by decide +kernel
theorem fV_98 : FV 98 aM_98 := ⟨(gW (gT3 (i := 178) rfl) rfl), (gW (gT3 (i := 179) rfl) rfl), rfl, Or.inl ⟨aCl_5, by rw [mC_98]; rfl, rfl, by rw [mC_98]; decide⟩⟩
set_option maxRecDepth 100000 in
theorem aA_99 : aMt[99]? = some aM_99 := rfl
theorem fM_99 : FM aM_99 := ⟨rfl, by decide, (plainFor_of_name rfl), by decide +kernel, by decide +kernel, by decide +kernel⟩
theorem fC_99 : FC aM_99 := ⟨(gW (gT3 (i := 183) rfl) rfl), (gW (gT1 (i := 8) rfl) rfl)⟩
theorem fS_99 : FS aM_99 := ⟨(gW (gT3 (i := 182) rfl) rfl), rfl⟩
set_option maxRecDepth 100000 in
theorem aA_100 : aMt[100]? = some aM_100 := rfl
theorem fM_100 : FM aM_100 := ⟨rfl, by decide, (plainFor_of_name rfl), by decide +kernel, by decide +kernel, by decide +kernel⟩
theorem fC_100 : FC aM_100 := ⟨(gW (gT3 (i := 191) rfl) rfl), (gW (gT1 (i := 1) rfl) rfl)⟩
theorem mC_100 : mCl 100 = 9 := by decide +kernel
theorem fV_100 : FV 100 aM_100 := ⟨(gW (gT3 (i := 189) rfl) rfl), (gW (gT3 (i := 190) rfl) rfl), rfl, Or.inl ⟨aCl_8, by rw [mC_100]; rfl, rfl, by rw [mC_100]; decide⟩⟩
set_option maxRecDepth 100000 in
theorem aA_101 : aMt[101]? = some aM_101 := rfl
theorem fM_101 : FM aM_101 := ⟨rfl, by decide, (plainFor_of_name rfl), by decide +kernel, by decide +kernel, by decide +kernel⟩
theorem fC_101 : FC aM_101 := ⟨(gW (gT3 (i := 195) rfl) rfl), (gW (gT1 (i := 8) rfl) rfl)⟩
theorem mC_101 : mCl 101 = 6 := by decide +kernel
theorem fV_101 : FV 101 aM_101 := ⟨(gW (gT3 (i := 193) rfl) rfl), (gW (gT3 (i := 194) rfl) rfl), rfl, Or.inl ⟨aCl_5, by rw [mC_101]; rfl, rfl, by rw [mC_101]; decide⟩⟩
set_option maxRecDepth 100000 in
theorem aA_102 : aMt[102]? = some aM_102 := rfl
theorem fM_102 : FM aM_102 := ⟨rfl, by decide, (plainFor_of_name rfl), by decide +kernel, by decide +kernel, by decide +kernel⟩
theorem fC_102 : FC aM_102 := ⟨(gW (gT3 (i := 200) rfl) rfl), (gW (gT1 (i := 1) rfl) rfl)⟩
theorem mC_102 : mCl 102 = 9 := by decide +kernel
theorem fV_102 : FV 102 aM_102 := ⟨(gW (gT3 (i := 198) rfl) rfl), (gW (gT3 (i := 199) rfl) rfl), rfl, Or.inl ⟨aCl_8, by rw [mC_102]; rfl, rfl, by rw [mC_102]; decide⟩⟩
set_option maxRecDepth 100000 in
theorem aA_103 : aMt[103]? = some aM_103 := rfl
theorem fM_103 : FM aM_103 := ⟨rfl, by decide, (plainFor_of_name rfl), by decide +kernel, by decide +kernel, by decide +kernel⟩
theorem fC_103 : FC aM_103 := ⟨(gW (gT3 (i := 204) rfl) rfl), (gW (gT1 (i := 2) rfl) rfl)⟩
theorem mC_103 : mCl 103 = 3 := by decide +kernel
theorem fV_103 : FV 103 aM_103 := ⟨(gW (gT3 (i := 202) rfl) rfl), (gW (gT3 (i := 203) rfl) rfl), rfl, Or.inl ⟨aCl_2, by rw [mC_103]; rfl, rfl, by rw [mC_103]; decide⟩⟩
set_option maxRecDepth 100000 in
theorem aA_104 : aMt[104]? = some aM_104 := rfl
theorem fM_104 : FM aM_104 := ⟨rfl, by decide, (aMathPlain rfl rfl), by decide +kernel, by decide +kernel, by decide +kernel⟩
theorem fC_104 : FC aM_104 := ⟨(gW (gT3 (i := 207) rfl) rfl), (gW (gT1 (i := 13) rfl) rfl)⟩
theorem fS_104 : FS aM_104 := ⟨(gW (gT3 (i := 206) rfl) rfl), rfl⟩
set_option maxRecDepth 100000 in
theorem aA_105 : aMt[105]? = some aM_105 := rfl
theorem fM_105 : FM aM_105 := ⟨rfl, by decide, (plainFor_of_name rfl), by decide +kernel, by decide +kernel, by decide +kernel⟩
theorem fC_105 : FC aM_105 := ⟨(gW (gT3 (i := 213) rfl) rfl), (gW (gT1 (i := 1) rfl) rfl)⟩
theorem mC_105 : mCl 105 = 9 := by decide +kernel
theorem fV_105 : FV 105 aM_105 := ⟨(gW (gT3 (i := 211) rfl) rfl), (gW (gT3 (i := 212) rfl) rfl), rfl, Or.inl ⟨aCl_8, by rw [mC_105]; rfl, rfl, by rw [mC_105]; decide⟩⟩
set_option maxRecDepth 100000 in
theorem aA_106 : aMt[106]? = some aM_106 := rfl
theorem fM_106 : FM aM_106 := ⟨rfl, by decide, (plainFor_of_name rfl), by decide +kernel, by decide +kernel, by decide +kernel⟩
theorem fC_106 : FC aM_106 := ⟨(gW (gT3 (i := 217) rfl) rfl), (gW (gT1 (i := 3) rfl) rfl)⟩
theorem mC_106 : mCl 106 = 2 := by decide +kernel
theorem fV_106 : FV 106 aM_106 := ⟨(gW (gT3 (i := 215) rfl) rfl), (gW (gT3 (i := 216) rfl) rfl), rfl, Or.inl ⟨aCl_1, by rw [mC_106]; rfl, rfl, by rw [mC_106]; decide⟩⟩
set_option maxRecDepth 100000 in
theorem aA_107 : aMt[107]? = some aM_107 := rfl
theorem fM_107 : FM aM_107 := ⟨rfl, by decide, (plainFor_of_name rfl), by decide +kernel, by decide +kernel, by decide +kernel⟩
theorem fC_107 : FC aM_107 := ⟨(gW (gT3 (i := 221) rfl) rfl), (gW (gT1 (i := 3) rfl) rfl)⟩
theorem mC_107 : mCl 107 = 2 := by decide +kernel
theorem fV_107 : FV 107 aM_107 := ⟨(gW (gT3 (i := 219) rfl) rfl), (gW (gT3 (i := 220) rfl) rfl), rfl, Or.inl ⟨aCl_1, by rw [mC_107]; rfl, rfl, by rw [mC_107]; decide⟩⟩
set_option maxRecDepth 100000 in
theorem aA_108 : aMt[108]? = some aM_108 := rfl
theorem fM_108 : FM aM_108 := ⟨rfl, by decide, (plainFor_of_name rfl), by decide +kernel, by decide +kernel, by decide +kernel⟩
theorem fC_108 : FC aM_108 := ⟨(gW (gT3 (i := 226) rfl) rfl), (gW (gT1 (i := 1) rfl) rfl)⟩
theorem mC_108 : mCl 108 = 9 := by decide +kernel
theorem fV_108 : FV 108 aM_108 := ⟨(gW (gT3 (i := 224) rfl) rfl), (gW (gT3 (i := 225) rfl) rfl), rfl, Or.inl ⟨aCl_8, by rw [mC_108]; rfl, rfl, by rw [mC_108]; decide⟩⟩
set_option maxRecDepth 100000 in
theorem aA_109 : aMt[109]? = some aM_109 := rfl
theorem fM_109 : FM aM_109 := ⟨rfl, by decide, (plainFor_of_name rfl), by decide +kernel, by decide +kernel, by decide +kernel⟩
theorem fC_109 : FC aM_109 := ⟨(gW (gT3 (i := 230) rfl) rfl), (gW (gT1 (i := 2) rfl) rfl)⟩
theorem mC_109 : mCl 109 = 3 := by decide +kernel
theorem fV_109 : FV 109 aM_109 := ⟨(gW (gT3 (i := 228) rfl) rfl), (gW (gT3 (i := 229) rfl) rfl), rfl, Or.inl ⟨aCl_2, by rw [mC_109]; rfl, rfl, by rw [mC_109]; decide⟩⟩
set_option maxRecDepth 100000 in
theorem aA_110 : aMt[110]? = some aM_110 := rfl
theorem fM_110 : FM aM_110 := ⟨rfl, by decide, (plainFor_of_name rfl), by decide +kernel, by decide +kernel, by decide +kernel⟩
theorem fC_110 : FC aM_110 := ⟨(gW (gT3 (i := 235) rfl) rfl), (gW (gT1 (i := 1) rfl) rfl)⟩
theorem mC_110 : mCl 110 = 9 := by decide +kernel
theorem fV_110 : FV 110 aM_110 := ⟨(gW (gT3 (i := 233) rfl) rfl), (gW (gT3 (i := 234) rfl) rfl), rfl, Or.inl ⟨aCl_8, by rw [mC_110]; rfl, rfl, by rw [mC_110]; decide⟩⟩
set_option maxRecDepth 100000 in
theorem aA_111 : aMt[111]? = some aM_111 := rfl
theorem fM_111 : FM aM_111 := ⟨rfl, by decide, (plainFor_of_name rfl), by decide +kernel, by decide +kernel, by decide +kernel⟩
theorem fC_111 : FC aM_111 := ⟨(gW (gT4 (i := 0) rfl) rfl), (gW (gT1 (i := 1) rfl) rfl)⟩
theorem mC_111 : mCl 111 = 9 := by decide +kernel
theorem fV_111 : FV 111 aM_111 := ⟨(gW (gT3 (i := 238) rfl) rfl), (gW (gT3 (i := 239) rfl) rfl), rfl, Or.inl ⟨aCl_8, by rw [mC_111]; rfl, rfl, by rw [mC_111]; decide⟩⟩
set_option maxRecDepth 100000 in
theorem aA_112 : aMt[112]? = some aM_112 := rfl
theorem fM_112 : FM aM_112 := ⟨rfl, by decide, (plainFor_of_name rfl), by decide +kernel, by decide +kernel, by decide +kernel⟩
theorem fC_112 : FC aM_112 := ⟨(gW (gT4 (i := 4) rfl) rfl), (gW (gT1 (i := 1) rfl) rfl)⟩
theorem mC_112 : mCl 112 = 9 := by decide +kernel
theorem fV_112 : FV 112 aM_112 := ⟨(gW (gT4 (i := 2) rfl) rfl), (gW (gT4 (i := 3) rfl) rfl), rfl, Or.inl ⟨aCl_8, by rw [mC_112]; rfl, rfl, by rw [mC_112]; decide⟩⟩
set_option maxRecDepth 100000 in
theorem aA_113 : aMt[113]? = some aM_113 := rfl
theorem fM_113 : FM aM_113 := ⟨rfl, by decide, (plainFor_of_name rfl), by decide +kernel, by decide +kernel, by decide +kernel⟩
theorem fC_113 : FC aM_113 := ⟨(gW (gT4 (i := 8) rfl) rfl), (gW (gT1 (i := 1) rfl) rfl)⟩
theorem mC_113 : mCl 113 = 9 := by decide +kernel
theorem fV_113 : FV 113 aM_113 := ⟨(gW (gT4 (i := 6) rfl) rfl), (gW (gT4 (i := 7) rfl) rfl), rfl, Or.inl ⟨aCl_8, by rw [mC_113]; rfl, rfl, by rw [mC_113]; decide⟩⟩
set_option maxRecDepth 100000 in
theorem aA_114 : aMt[114]? = some aM_114 := rfl
theorem fM_114 : FM aM_114 := ⟨rfl, by decide, (plainFor_of_name rfl), by decide +kernel, by decide +kernel, by decide +kernel⟩
theorem fC_114 : FC aM_114 := ⟨(gW (gT4 (i := 13) rfl) rfl), (gW (gT1 (i := 1) rfl) rfl)⟩
theorem mC_114 : mCl 114 = 9 := by decide +kernel
theorem fV_114 : FV 114 aM_114 := ⟨(gW (gT4 (i := 11) rfl) rfl), (gW (gT4 (i := 12) rfl) rfl), rfl, Or.inl ⟨aCl_8, by rw [mC_114]; rfl, rfl, by rw [mC_114]; decide⟩⟩
set_option maxRecDepth 100000 in
theorem aA_115 : aMt[115]? = some aM_115 := rfl
theorem fM_115 : FM aM_115 := ⟨rfl, by decide, (plainFor_of_name rfl), by decide +kernel, by decide +kernel, by decide +kernel⟩
theorem fC_115 : FC aM_115 := ⟨(gW (gT4 (i := 17) rfl) rfl), (gW (gT1 (i := 1) rfl) rfl)⟩
theorem mC_115 : mCl 115 = 9 := by decide +kernel
theorem fV_115 : FV 115 aM_115 := ⟨(gW (gT4 (i := 15) rfl) rfl), (gW (gT4 (i := 16) rfl) rfl), rfl, Or.inl ⟨aCl_8, by rw [mC_115]; rfl, rfl, by rw [mC_115]; decide⟩⟩
set_option maxRecDepth 100000 in
theorem aA_116 : aMt[116]? = some aM_116 := rfl
theorem fM_116 : FM aM_116 := ⟨rfl, by decide, (plainFor_of_name rfl), by decide +kernel, by decide +kernel, by decide +kernel⟩
theorem fC_116 : FC aM_116 := ⟨(gW (gT4 (i := 23) rfl) rfl), (gW (gT1 (i := 1) rfl) rfl)⟩
theorem mC_116 : mCl 116 = 9 := by decide +kernel
theorem fV_116 : FV 116 aM_116 := ⟨(gW (gT4 (i := 21) rfl) rfl), (gW (gT4 (i := 22) rfl) rfl), rfl, Or.inl ⟨aCl_8, by rw [mC_116]; rfl, rfl, by rw [mC_116]; decide⟩⟩
set_option maxRecDepth 100000 in
theorem aA_117 : aMt[117]? = some aM_117 := rfl
theorem fM_117 : FM aM_117 := ⟨rfl, by decide, (plainFor_of_name rfl), by decide +kernel, by decide +kernel, by decide +kernel⟩
theorem fC_117 : FC aM_117 := ⟨(gW (gT4 (i := 27) rfl) rfl), (gW (gT1 (i := 1) rfl) rfl)⟩
theorem mC_117 : mCl 117 = 9 := by decide +kernel
theorem fV_117 : FV 117 aM_117 := ⟨(gW (gT4 (i := 25) rfl) rfl), (gW (gT4 (i := 26) rfl) rfl), rfl, Or.inl ⟨aCl_8, by rw [mC_117]; rfl, rfl, by rw [mC_117]; decide⟩⟩
set_option maxRecDepth 100000 in
theorem aA_118 : aMt[118]? = some aM_118 := rfl
theorem fM_118 : FM aM_118 := ⟨rfl, by decide, (plainFor_of_name rfl), by decide +kernel, by decide +kernel, by decide +kernel⟩
theorem fC_118 : FC aM_118 := ⟨(gW (gT4 (i := 31) rfl) rfl), (gW (gT1 (i := 2) rfl) rfl)⟩
theorem mC_118 : mCl 118 = 3 := by decide +kernel
theorem fV_118 : FV 118 aM_118 := ⟨(gW (gT4 (i := 29) rfl) rfl), (gW (gT4 (i := 30) rfl) rfl), rfl, Or.inl ⟨aCl_2, by rw [mC_118]; rfl, rfl, by rw [mC_118]; decide⟩⟩
set_option maxRecDepth 100000 in
theorem aA_119 : aMt[119]? = some aM_119 := rfl
theorem fM_119 : FM aM_119 := ⟨rfl, by decide, (plainFor_of_name rfl), by decide +kernel, by decide +kernel, by decide +kernel⟩
theorem fC_119 : FC aM_119 := ⟨(gW (gT4 (i := 35) rfl) rfl), (gW (gT1 (i := 1) rfl) rfl)⟩
theorem mC_119 : mCl 119 = 9 := by decide +kernel
theorem fV_119 : FV 119 aM_119 := ⟨(gW (gT4 (i := 33) rfl) rfl), (gW (gT4 (i := 34) rfl) rfl), rfl, Or.inl ⟨aCl_8, by rw [mC_119]; rfl, rfl, by rw [mC_119]; decide⟩⟩
set_option maxRecDepth 100000 in
theorem aA_120 : aMt[120]? = some aM_120 := rfl
theorem fM_120 : FM aM_120 := ⟨rfl, by decide, (plainFor_of_name rfl), by decide +kernel, by decide +kernel, by decide +kernel⟩
theorem fC_120 : FC aM_120 := ⟨(gW (gT4 (i := 38) rfl) rfl), (gW (gT1 (i := 12) rfl) rfl)⟩
theorem fS_120 : FS aM_120 := ⟨(gW (gT4 (i := 37) rfl) rfl), rfl⟩
set_option maxRecDepth 100000 in
theorem aA_121 : aMt[121]? = some aM_121 := rfl
theorem fM_121 : FM aM_121 := ⟨rfl, by decide, (plainFor_of_name rfl), by decide +kernel, by decide +kernel, by decide +kernel⟩
theorem fC_121 : FC aM_121 := ⟨(gW (gT4 (i := 41) rfl) rfl), (gW (gT1 (i := 12) rfl) rfl)⟩
theorem fS_121 : FS aM_121 := ⟨(gW (gT4 (i := 40) rfl) rfl), rfl⟩
set_option maxRecDepth 100000 in
theorem aA_122 : aMt[122]? = some aM_122 := rfl
theorem fM_122 : FM aM_122 := ⟨rfl, by decide, (plainFor_of_name rfl), by decide +kernel, by decide +kernel, by decide +kernel⟩
theorem fC_122 : FC aM_122 := ⟨(gW (gT4 (i := 45) rfl) rfl), (gW (gT1 (i := 1) rfl) rfl)⟩
theorem mC_122 : mCl 122 = 9 := by decide +kernel
theorem fV_122 : FV 122 aM_122 := ⟨(gW (gT4 (i := 43) rfl) rfl), (gW (gT4 (i := 44) rfl) rfl), rfl, Or.inl ⟨aCl_8, by rw [mC_122]; rfl, rfl, by rw [mC_122]; decide⟩⟩
set_option maxRecDepth 100000 in
theorem aA_123 : aMt[123]? = some aM_123 := rfl
theorem fM_123 : FM aM_123 := ⟨rfl, by decide, (plainFor_of_name rfl), by decide +kernel, by decide +kernel, by decide +kernel⟩
theorem fC_123 : FC aM_123 := ⟨(gW (gT4 (i := 48) rfl) rfl), (gW (gT1 (i := 12) rfl) rfl)⟩
theorem fS_123 : FS aM_123 := ⟨(gW (gT4 (i := 47) rfl) rfl), rfl⟩
set_option maxRecDepth 100000 in
theorem aA_124 : aMt[124]? = some aM_124 := rfl
theorem fM_124 : FM aM_124 := ⟨rfl, by decide, (plainFor_of_name rfl), by decide +kernel, by decide +kernel, by decide +kernel⟩
theorem fC_124 : FC aM_124 := ⟨(gW (gT4 (i := 52) rfl) rfl), (gW (gT1 (i := 1) rfl) rfl)⟩
theorem mC_124 : mCl 124 = 9 := by decide +kernel
theorem fV_124 : FV 124 aM_124 := ⟨(gW (gT4 (i := 50) rfl) rfl), (gW (gT4 (i := 51) rfl) rfl), rfl, Or.inl ⟨aCl_8, by rw [mC_124]; rfl, rfl, by rw [mC_124]; decide⟩⟩
set_option maxRecDepth 100000 in
theorem aA_125 : aMt[125]? = some aM_125 := rfl
theorem fM_125 : FM aM_125 := ⟨rfl, by decide, (plainFor_of_name rfl), by decide +kernel, by decide +kernel, by decide +kernel⟩
theorem fC_125 : FC aM_125 := ⟨(gW (gT4 (i := 56) rfl) rfl), (gW (gT1 (i := 1) rfl) rfl)⟩
theorem mC_125 : mCl 125 = 9 := by decide +kernel
theorem fV_125 : FV 125 aM_125 := ⟨(gW (gT4 (i := 54) rfl) rfl), (gW (gT4 (i := 55) rfl) rfl), rfl, Or.inl ⟨aCl_8, by rw [mC_125]; rfl, rfl, by rw [mC_125]; decide⟩⟩
set_option maxRecDepth 100000 in
theorem aA_126 : aMt[126]? = some aM_126 := rfl
theorem fM_126 : FM aM_126 := ⟨rfl, by decide, (plainFor_of_name rfl), by decide +kernel, by decide +kernel, by decide +kernel⟩
theorem fC_126 : FC aM_126 := ⟨(gW (gT4 (i := 60) rfl) rfl), (gW (gT1 (i := 9) rfl) rfl)⟩
theorem mC_126 : mCl 126 = 7 := by decide +kernel
theorem fV_126 : FV 126 aM_126 := ⟨(gW (gT4 (i := 58) rfl) rfl), (gW (gT4 (i := 59) rfl) rfl), rfl, Or.inl ⟨aCl_6, by rw [mC_126]; rfl, rfl, by rw [mC_126]; decide⟩⟩
set_option maxRecDepth 100000 in
theorem aA_127 : aMt[127]? = some aM_127 := rfl
theorem fM_127 : FM aM_127 := ⟨rfl, by decide, (plainFor_of_name rfl), by decide +kernel, by decide +kernel, by decide +kernel⟩
theorem fC_127 : FC aM_127 := ⟨(gW (gT4 (i := 65) rfl) rfl), (gW (gT1 (i := 9) rfl) rfl)⟩
theorem mC_127 : mCl 127 = 7 := by decide +kernel
theorem fV_127 : FV 127 aM_127 := ⟨(gW (gT4 (i := 64) rfl) rfl), (gW (gT0 (i := 19) rfl) rfl), rfl, Or.inl ⟨aCl_6, by rw [mC_127]; rfl, rfl, by rw [mC_127]; decide⟩⟩
set_option maxRecDepth 100000 in
theorem aA_128 : aMt[128]? = some aM_128 := rfl
theorem fM_128 : FM aM_128 := ⟨rfl, by decide, (plainFor_of_name rfl), by decide +kernel, by decide +kernel, by decide +kernel⟩
theorem fC_128 : FC aM_128 := ⟨(gW (gT4 (i := 69) rfl) rfl), (gW (gT1 (i := 9) rfl) rfl)⟩
theorem mC_128 : mCl 128 = 7 := by decide +kernel
theorem fV_128 : FV 128 aM_128 := ⟨(gW (gT4 (i := 68) rfl) rfl), (gW (gT0 (i := 20) rfl) rfl), rfl, Or.inl ⟨aCl_6, by rw [mC_128]; rfl, rfl, by rw [mC_128]; decide⟩⟩
set_option maxRecDepth 100000 in
theorem aA_129 : aMt[129]? = some aM_129 := rfl
theorem fM_129 : FM aM_129 := ⟨rfl, by decide, (plainFor_of_name rfl), by decide +kernel, by decide +kernel, by decide +kernel⟩
theorem fC_129 : FC aM_129 := ⟨(gW (gT4 (i := 73) rfl) rfl), (gW (gT1 (i := 9) rfl) rfl)⟩
theorem mC_129 : mCl 129 = 7 := by decide +kernel
theorem fV_129 : FV 129 aM_129 := ⟨(gW (gT4 (i := 72) rfl) rfl), (gW (gT0 (i := 21) rfl) rfl), rfl, Or.inl ⟨aCl_6, by rw [mC_129]; rfl, rfl, by rw [mC_129]; decide⟩⟩
set_option maxRecDepth 100000 in
theorem aA_130 : aMt[130]? = some aM_130 := rfl
theorem fM_130 : FM aM_130 := ⟨rfl, by decide, (plainFor_of_name rfl), by decide +kernel, by decide +kernel, by decide +kernel⟩
theorem fC_130 : FC aM_130 := ⟨(gW (gT4 (i := 79) rfl) rfl), (gW (gT1 (i := 9) rfl) rfl)⟩
theorem mC_130 : mCl 130 = 7 := by decide +kernel
theorem fV_130 : FV 130 aM_130 := ⟨(gW (gT4 (i := 78) rfl) rfl), (gW (gT0 (i := 22) rfl) rfl), rfl, Or.inl ⟨aCl_6, by rw [mC_130]; rfl, rfl, by rw [mC_130]; decide⟩⟩
set_option maxRecDepth 100000 in
theorem aA_131 : aMt[131]? = some aM_131 := rfl
theorem fM_131 : FM aM_131 := ⟨rfl, by decide, (plainFor_of_name rfl), by decide +kernel, by decide +kernel, by decide +kernel⟩
theorem fC_131 : FC aM_131 := ⟨(gW (gT4 (i := 89) rfl) rfl), (gW (gT1 (i := 9) rfl) rfl)⟩
theorem mC_131 : mCl 131 = 7 := by decide +kernel
theorem fV_131 : FV 131 aM_131 := ⟨(gW (gT4 (i := 88) rfl) rfl), (gW (gT0 (i := 23) rfl) rfl), rfl, Or.inl ⟨aCl_6, by rw [mC_131]; rfl, rfl, by rw [mC_131]; decide⟩⟩
set_option maxRecDepth 100000 in
theorem aA_132 : aMt[132]? = some aM_132 := rfl
theorem fM_132 : FM aM_132 := ⟨rfl, by decide, (plainFor_of_name rfl), by decide +kernel, by decide +kernel, by decide +kernel⟩
theorem fC_132 : FC aM_132 := ⟨(gW (gT4 (i := 95) rfl) rfl), (gW (gT1 (i := 1) rfl) rfl)⟩
theorem mC_132 : mCl 132 = 9 := by decide +kernel
theorem fV_132 : FV 132 aM_132 := ⟨(gW (gT4 (i := 93) rfl) rfl), (gW (gT4 (i := 94) rfl) rfl), rfl, Or.inl ⟨aCl_8, by rw [mC_132]; rfl, rfl, by rw [mC_132]; decide⟩⟩
set_option maxRecDepth 100000 in
theorem aA_133 : aMt[133]? = some aM_133 := rfl
theorem fM_133 : FM aM_133 := ⟨rfl, by decide, (plainFor_of_name rfl), by decide +kernel, by decide +kernel, by decide +kernel⟩
theorem fC_133 : FC aM_133 := ⟨(gW (gT4 (i := 100) rfl) rfl), (gW (gT1 (i := 1) rfl) rfl)⟩
theorem mC_133 : mCl 133 = 9 := by decide +kernel
theorem fV_133 : FV 133 aM_133 := ⟨(gW (gT4 (i := 98) rfl) rfl), (gW (gT4 (i := 99) rfl) rfl), rfl, Or.inl ⟨aCl_8, by rw [mC_133]; rfl, rfl, by rw [mC_133]; decide⟩⟩
set_option maxRecDepth 100000 in
theorem aA_134 : aMt[134]? = some aM_134 := rfl
theorem fM_134 : FM aM_134 := ⟨rfl, by decide, (plainFor_of_name rfl), by decide +kernel, by decide +kernel, by decide +kernel⟩
theorem fC_134 : FC aM_134 := ⟨(gW (gT4 (i := 105) rfl) rfl), (gW (gT1 (i := 1) rfl) rfl)⟩
theorem mC_134 : mCl 134 = 9 := by decide +kernel
theorem fV_134 : FV 134 aM_134 := ⟨(gW (gT4 (i := 103) rfl) rfl), (gW (gT4 (i := 104) rfl) rfl), rfl, Or.inl ⟨aCl_8, by rw [mC_134]; rfl, rfl, by rw [mC_134]; decide⟩⟩
set_option maxRecDepth 100000 in
theorem aA_135 : aMt[135]? = some aM_135 := rfl
theorem fM_135 : FM aM_135 := ⟨rfl, by decide, (plainFor_of_name rfl), by decide +kernel, by decide +kernel, by decide +kernel⟩
theorem fC_135 : FC aM_135 := ⟨(gW (gT4 (i := 110) rfl) rfl), (gW (gT1 (i := 1) rfl) rfl)⟩
theorem mC_135 : mCl 135 = 9 := by decide +kernel
theorem fV_135 : FV 135 aM_135 := ⟨(gW (gT4 (i := 108) rfl) rfl), (gW (gT4 (i := 109) rfl) rfl), rfl, Or.inl ⟨aCl_8, by rw [mC_135]; rfl, rfl, by rw [mC_135]; decide⟩⟩
set_option maxRecDepth 100000 in
theorem aA_136 : aMt[136]? = some aM_136 := rfl
theorem fM_136 : FM aM_136 := ⟨rfl, by decide, (plainFor_of_name rfl), by decide +kernel, by decide +kernel, by decide +kernel⟩
theorem fC_136 : FC aM_136 := ⟨(gW (gT4 (i := 115) rfl) rfl), (gW (gT1 (i := 1) rfl) rfl)⟩
theorem mC_136 : mCl 136 = 9 := by decide +kernel
theorem fV_136 : FV 136 aM_136 := ⟨(gW (gT4 (i := 113) rfl) rfl), (gW (gT4 (i := 114) rfl) rfl), rfl, Or.inl ⟨aCl_8, by rw [mC_136]; rfl, rfl, by rw [mC_136]; decide⟩⟩
set_option maxRecDepth 100000 in
theorem aA_137 : aMt[137]? = some aM_137 := rfl
theorem fM_137 : FM aM_137 := ⟨rfl, by decide, (plainFor_of_name rfl), by decide +kernel, by decide +kernel, by decide +kernel⟩
theorem fC_137 : FC aM_137 := ⟨(gW (gT4 (i := 120) rfl) rfl), (gW (gT1 (i := 1) rfl) rfl)⟩
theorem mC_137 : mCl 137 = 9 := by decide +kernel
theorem fV_137 : FV 137 aM_137 := ⟨(gW (gT4 (i := 118) rfl) rfl), (gW (gT4 (i := 119) rfl) rfl), rfl, Or.inl ⟨aCl_8, by rw [mC_137]; rfl, rfl, by rw [mC_137]; decide⟩⟩
set_option maxRecDepth 100000 in
theorem aA_138 : aMt[138]? = some aM_138 := rfl
theorem fM_138 : FM aM_138 := ⟨rfl, by decide, (plainFor_of_name rfl), by decide +kernel, by decide +kernel, by decide +kernel⟩
theorem fC_138 : FC aM_138 := ⟨(gW (gT4 (i := 126) rfl) rfl), (gW (gT1 (i := 1) rfl) rfl)⟩
theorem mC_138 : mCl 138 = 9 := by decide +kernel
theorem fV_138 : FV 138 aM_138 := ⟨(gW (gT4 (i := 124) rfl) rfl), (gW (gT4 (i := 125) rfl) rfl), rfl, Or.inl ⟨aCl_8, by rw [mC_138]; rfl, rfl, by rw [mC_138]; decide⟩⟩
set_option maxRecDepth 100000 in
theorem aA_139 : aMt[139]? = some aM_139 := rfl
theorem fM_139 : FM aM_139 := ⟨rfl, by decide, (plainFor_of_name rfl), by decide +kernel, by decide +kernel, by decide +kernel⟩
theorem fC_139 : FC aM_139 := ⟨(gW (gT4 (i := 130) rfl) rfl), (gW (gT1 (i := 4) rfl) rfl)⟩
theorem mC_139 : mCl 139 = 1 := by decide +kernel
theorem fV_139 : FV 139 aM_139 := ⟨(gW (gT4 (i := 128) rfl) rfl), (gW (gT4 (i := 129) rfl) rfl), rfl, Or.inl ⟨aCl_0, by rw [mC_139]; rfl, rfl, by rw [mC_139]; decide⟩⟩
set_option maxRecDepth 100000 in
theorem aA_140 : aMt[140]? = some aM_140 := rfl
theorem fM_140 : FM aM_140 := ⟨rfl, by decide, (plainFor_of_name rfl), by decide +kernel, by decide +kernel, by decide +kernel⟩
theorem fC_140 : FC aM_140 := ⟨(gW (gT4 (i := 134) rfl) rfl), (gW (gT1 (i := 1) rfl) rfl)⟩
theorem mC_140 : mCl 140 = 9 := by decide +kernel
theorem fV_140 : FV 140 aM_140 := ⟨(gW (gT4 (i := 132) rfl) rfl), (gW (gT4 (i := 133) rfl) rfl), rfl, Or.inl ⟨aCl_8, by rw [mC_140]; rfl, rfl, by rw [mC_140]; decide⟩⟩
set_option maxRecDepth 100000 in
theorem aA_141 : aMt[141]? = some aM_141 := rfl
theorem fM_141 : FM aM_141 := ⟨rfl, by decide, (plainFor_of_name rfl), by decide +kernel, by decide +kernel, by decide +kernel⟩
theorem fC_141 : FC aM_141 := ⟨(gW (gT4 (i := 138) rfl) rfl), (gW (gT1 (i := 1) rfl) rfl)⟩
theorem mC_141 : mCl 141 = 9 := by decide +kernel
theorem fV_141 : FV 141 aM_141 := ⟨(gW (gT4 (i := 136) rfl) rfl), (gW (gT4 (i := 137) rfl) rfl), rfl, Or.inl ⟨aCl_8, by rw [mC_141]; rfl, rfl, by rw [mC_141]; decide⟩⟩
set_option maxRecDepth 100000 in
theorem aA_142 : aMt[142]? = some aM_142 := rfl
theorem fM_142 : FM aM_142 := ⟨rfl, by decide, (aMathPlain rfl rfl), by decide +kernel, by decide +kernel, by decide +kernel⟩
theorem fC_142 : FC aM_142 := ⟨(gW (gT4 (i := 142) rfl) rfl), (gW (gT1 (i := 13) rfl) rfl)⟩
theorem fS_142 : FS aM_142 := ⟨(gW (gT4 (i := 141) rfl) rfl), rfl⟩
set_option maxRecDepth 100000 in
theorem aA_143 : aMt[143]? = some aM_143 := rfl
theorem fM_143 : FM aM_143 := ⟨rfl, by decide, (plainFor_of_name rfl), by decide +kernel, by decide +kernel, by decide +kernel⟩
theorem fC_143 : FC aM_143 := ⟨(gW (gT4 (i := 147) rfl) rfl), (gW (gT1 (i := 1) rfl) rfl)⟩
theorem mC_143 : mCl 143 = 9 := by decide +kernel
theorem fV_143 : FV 143 aM_143 := ⟨(gW (gT4 (i := 145) rfl) rfl), (gW (gT4 (i := 146) rfl) rfl), rfl, Or.inl ⟨aCl_8, by rw [mC_143]; rfl, rfl, by rw [mC_143]; decide⟩⟩
set_option maxRecDepth 100000 in
theorem aA_144 : aMt[144]? = some aM_144 := rfl
theorem fM_144 : FM aM_144 := ⟨rfl, by decide, (plainFor_of_name rfl), by decide +kernel, by decide +kernel, by decide +kernel⟩
theorem fC_144 : FC aM_144 := ⟨(gW (gT4 (i := 152) rfl) rfl), (gW (gT1 (i := 1) rfl) rfl)⟩
theorem mC_144 : mCl 144 = 9 := by decide +kernel
theorem fV_144 : FV 144 aM_144 := ⟨(gW (gT4 (i := 150) rfl) rfl), (gW (gT4 (i := 151) rfl) rfl), rfl, Or.inl ⟨aCl_8, by rw [mC_144]; rfl, rfl, by rw [mC_144]; decide⟩⟩
set_option maxRecDepth 100000 in
theorem aA_145 : aMt[145]? = some aM_145 := rfl
theorem fM_145 : FM aM_145 := ⟨rfl, by decide, (plainFor_of_name rfl), by decide +kernel, by decide +kernel, by decide +kernel⟩
theorem fC_145 : FC aM_145 := ⟨(gW (gT4 (i := 155) rfl) rfl), (gW (gT1 (i := 1) rfl) rfl)⟩
theorem fS_145 : FS aM_145 := ⟨(gW (gT4 (i := 154) rfl) rfl), rfl⟩
set_option maxRecDepth 100000 in
theorem aA_146 : aMt[146]? = some aM_146 := rfl
theorem fM_146 : FM aM_146 := ⟨rfl, by decide, (plainFor_of_name rfl), by decide +kernel, by decide +kernel, by decide +kernel⟩
theorem fC_146 : FC aM_146 := ⟨(gW (gT4 (i := 160) rfl) rfl), (gW (gT1 (i := 1) rfl) rfl)⟩
theorem mC_146 : mCl 146 = 9 := by decide +kernel
theorem fV_146 : FV 146 aM_146 := ⟨(gW (gT4 (i := 158) rfl) rfl), (gW (gT4 (i := 159) rfl) rfl), rfl, Or.inl ⟨aCl_8, by rw [mC_146]; rfl, rfl, by rw [mC_146]; decide⟩⟩
set_option maxRecDepth 100000 in
theorem aA_147 : aMt[147]? = some aM_147 := rfl
theorem fM_147 : FM aM_147 := ⟨rfl, by decide, (plainFor_of_name rfl), by decide +kernel, by decide +kernel, by decide +kernel⟩
theorem fC_147 : FC aM_147 := ⟨(gW (gT4 (i := 164) rfl) rfl), (gW (gT1 (i := 1) rfl) rfl)⟩
theorem mC_147 : mCl 147 = 9 := by decide +kernel
theorem fV_147 : FV 147 aM_147 := ⟨(gW (gT4 (i := 162) rfl) rfl), (gW (gT4 (i := 163) rfl) rfl), rfl, Or.inl ⟨aCl_8, by rw [mC_147]; rfl, rfl, by rw [mC_147]; decide⟩⟩
set_option maxRecDepth 100000 in
theorem aA_148 : aMt[148]? = some aM_148 := rfl
theorem fM_148 : FM aM_148 := ⟨rfl, by decide, (plainFor_of_name rfl), by decide +kernel, by decide +kernel, by decide +kernel⟩
theorem fC_148 : FC aM_148 := ⟨(gW (gT4 (i := 169) rfl) rfl), (gW (gT1 (i := 1) rfl) rfl)⟩
theorem mC_148 : mCl 148 = 9 := by decide +kernel
theorem fV_148 : FV 148 aM_148 := ⟨(gW (gT4 (i := 167) rfl) rfl), (gW (gT4 (i := 168) rfl) rfl), rfl, Or.inl ⟨aCl_8, by rw [mC_148]; rfl, rfl, by rw [mC_148]; decide⟩⟩
set_option maxRecDepth 100000 in
theorem aA_149 : aMt[149]? = some aM_149 := rfl
theorem fM_149 : FM aM_149 := ⟨rfl, by decide, (plainFor_of_name rfl), by decide +kernel, by decide +kernel, by decide +kernel⟩
theorem fC_149 : FC aM_149 := ⟨(gW (gT4 (i := 174) rfl) rfl), (gW (gT1 (i := 4) rfl) rfl)⟩
theorem mC_149 : mCl 149 = 1 := by decide +kernel
theorem fV_149 : FV 149 aM_149 := ⟨(gW (gT4 (i := 172) rfl) rfl), (gW (gT4 (i := 173) rfl) rfl), rfl, Or.inl ⟨aCl_0, by rw [mC_149]; rfl, rfl, by rw [mC_149]; decide⟩⟩
set_option maxRecDepth 100000 in
theorem aA_150 : aMt[150]? = some aM_150 := rfl
theorem fM_150 : FM aM_150 := ⟨rfl, by decide, (plainFor_of_name rfl), by decide +kernel, by decide +kernel, by decide +kernel⟩
theorem fC_150 : FC aM_150 := ⟨(gW (gT4 (i := 178) rfl) rfl), (gW (gT1 (i := 4) rfl) rfl)⟩
theorem mC_150 : mCl 150 = 1 := by decide +kernel
theorem fV_150 : FV 150 aM_150 := ⟨(gW (gT4 (i := 176) rfl) rfl), (gW (gT4 (i := 177) rfl) rfl), rfl, Or.inl ⟨aCl_0, by rw [mC_150]; rfl, rfl, by rw [mC_150]; decide⟩⟩
set_option maxRecDepth 100000 in
theorem aA_151 : aMt[151]? = some aM_151 := rfl
theorem fM_151 : FM aM_151 := ⟨rfl, by decide, (plainFor_of_name rfl), by decide +kernel, by decide +kernel, by decide +kernel⟩
theorem fC_151 : FC aM_151 := ⟨(gW (gT4 (i := 183) rfl) rfl), (gW (gT1 (i := 1) rfl) rfl)⟩
theorem mC_151 : mCl 151 = 9 := by decide +kernel
theorem fV_151 : FV 151 aM_151 := ⟨(gW (gT4 (i := 181) rfl) rfl), (gW (gT4 (i := 182) rfl) rfl), rfl, Or.inl ⟨aCl_8, by rw [mC_151]; rfl, rfl, by rw [mC_151]; decide⟩⟩
set_option maxRecDepth 100000 in
theorem aA_152 : aMt[152]? = some aM_152 := rfl
theorem fM_152 : FM aM_152 := ⟨rfl, by decide, (plainFor_of_name rfl), by decide +kernel, by decide +kernel, by decide +kernel⟩
theorem fC_152 : FC aM_152 := ⟨(gW (gT4 (i := 188) rfl) rfl), (gW (gT1 (i := 1) rfl) rfl)⟩
theorem mC_152 : mCl 152 = 9 := by decide +kernel
theorem fV_152 : FV 152 aM_152 := ⟨(gW (gT4 (i := 186) rfl) rfl), (gW (gT4 (i := 187) rfl) rfl), rfl, Or.inl ⟨aCl_8, by rw [mC_152]; rfl, rfl, by rw [mC_152]; decide⟩⟩
set_option maxRecDepth 100000 in
theorem aA_153 : aMt[153]? = some aM_153 := rfl
theorem fM_153 : FM aM_153 := ⟨rfl, by decide, (plainFor_of_name rfl), by decide +kernel, by decide +kernel, by decide +kernel⟩
theorem fC_153 : FC aM_153 := ⟨(gW (gT4 (i := 193) rfl) rfl), (gW (gT1 (i := 1) rfl) rfl)⟩
theorem mC_153 : mCl 153 = 9 := by decide +kernel
theorem fV_153 : FV 153 aM_153 := ⟨(gW (gT4 (i := 191) rfl) rfl), (gW (gT4 (i := 192) rfl) rfl), rfl, Or.inl ⟨aCl_8, by rw [mC_153]; rfl, rfl, by rw [mC_153]; decide⟩⟩
set_option maxRecDepth 100000 in
theorem aA_154 : aMt[154]? = some aM_154 := rfl
theorem fM_154 : FM aM_154 := ⟨rfl, by decide, (plainFor_of_name rfl), by decide +kernel, by decide +kernel, by decide +kernel⟩
theorem fC_154 : FC aM_154 := ⟨(gW (gT4 (i := 197) rfl) rfl), (gW (gT1 (i := 1) rfl) rfl)⟩
theorem mC_154 : mCl 154 = 9 := by decide +kernel
theorem fV_154 : FV 154 aM_154 := ⟨(gW (gT4 (i := 195) rfl) rfl), (gW (gT4 (i := 196) rfl) rfl), rfl, Or.inl ⟨aCl_8, by rw [mC_154]; rfl, rfl, by rw [mC_154]; decide⟩⟩
set_option maxRecDepth 100000 in
theorem aA_155 : aMt[155]? = some aM_155 := rfl
theorem fM_155 : FM aM_155 := ⟨rfl, by decide, (plainFor_of_name rfl), by decide +kernel, by decide +kernel, by decide +kernel⟩
theorem fC_155 : FC aM_155 := ⟨(gW (gT4 (i := 200) rfl) rfl), (gW (gT1 (i := 19) rfl) rfl)⟩
theorem fS_155 : FS aM_155 := ⟨(gW (gT4 (i := 199) rfl) rfl), rfl⟩
set_option maxRecDepth 100000 in
theorem aA_156 : aMt[156]? = some aM_156 := rfl
theorem fM_156 : FM aM_156 := ⟨rfl, by decide, (plainFor_of_name rfl), by decide +kernel, by decide +kernel, by decide +kernel⟩
theorem fC_156 : FC aM_156 := ⟨(gW (gT4 (i := 207) rfl) rfl), (gW (gT1 (i := 2) rfl) rfl)⟩
theorem mC_156 : mCl 156 = 3 := by decide +kernel
theorem fV_156 : FV 156 aM_156 := ⟨(gW (gT4 (i := 205) rfl) rfl), (gW (gT4 (i := 206) rfl) rfl), rfl, Or.inl ⟨aCl_2, by rw [mC_156]; rfl, rfl, by rw [mC_156]; decide⟩⟩
set_option maxRecDepth 100000 in
theorem aA_157 : aMt[157]? = some aM_157 := rfl
theorem fM_157 : FM aM_157 := ⟨rfl, by decide, (plainFor_of_name rfl), by decide +kernel, by decide +kernel, by decide +kernel⟩
theorem fC_157 : FC aM_157 := ⟨(gW (gT4 (i := 211) rfl) rfl), (gW (gT1 (i := 2) rfl) rfl)⟩
theorem mC_157 : mCl 157 = 3 := by decide +kernel
theorem fV_157 : FV 157 aM_157 := ⟨(gW (gT4 (i := 209) rfl) rfl), (gW (gT4 (i := 210) rfl) rfl), rfl, Or.inl ⟨aCl_2, by rw [mC_157]; rfl, rfl, by rw [mC_157]; decide⟩⟩
set_option maxRecDepth 100000 in
theorem aA_158 : aMt[158]? = some aM_158 := rfl
theorem fM_158 : FM aM_158 := ⟨rfl, by decide, (plainFor_of_name rfl), by decide +kernel, by decide +kernel, by decide +kernel⟩
theorem fC_158 : FC aM_158 := ⟨(gW (gT4 (i := 215) rfl) rfl), (gW (gT1 (i := 2) rfl) rfl)⟩
theorem mC_158 : mCl 158 = 3 := by decide +kernel
theorem fV_158 : FV 158 aM_158 := ⟨(gW (gT4 (i := 213) rfl) rfl), (gW (gT4 (i := 214) rfl) rfl), rfl, Or.inl ⟨aCl_2, by rw [mC_158]; rfl, rfl, by rw [mC_158]; decide⟩⟩
set_option maxRecDepth 100000 in
theorem aA_159 : aMt[159]? = some aM_159 := rfl
theorem fM_159 : FM aM_159 := ⟨rfl, by decide, (plainFor_of_name rfl), by decide +kernel, by decide +kernel, by decide +kernel⟩
theorem fC_159 : FC aM_159 := ⟨(gW (gT4 (i := 219) rfl) rfl), (gW (gT1 (i := 2) rfl) rfl)⟩
theorem mC_159 : mCl 159 = 3 := by decide +kernel
theorem fV_159 : FV 159 aM_159 := ⟨(gW (gT4 (i := 217) rfl) rfl), (gW (gT4 (i := 218) rfl) rfl), rfl, Or.inl ⟨aCl_2, by rw [mC_159]; rfl, rfl, by rw [mC_159]; decide⟩⟩
set_option maxRecDepth 100000 in
theorem aA_160 : aMt[160]? = some aM_160 := rfl
theorem fM_160 : FM aM_160 := ⟨rfl, by decide, (plainFor_of_name rfl), by decide +kernel, by decide +kernel, by decide +kernel⟩
theorem fC_160 : FC aM_160 := ⟨(gW (gT4 (i := 225) rfl) rfl), (gW (gT1 (i := 10) rfl) rfl)⟩
theorem fI_160 : FI aM_160 := ⟨(gW (gT4 (i := 224) rfl) rfl), rfl, rfl, rfl⟩
set_option maxRecDepth 100000 in
theorem aA_161 : aMt[161]? = some aM_161 := rfl
theorem fM_161 : FM aM_161 := ⟨rfl, by decide, (plainFor_of_name rfl), by decide +kernel, by decide +kernel, by decide +kernel⟩
theorem fC_161 : FC aM_161 := ⟨(gW (gT5 (i := 96) rfl) rfl), (gW (gT1 (i := 10) rfl) rfl)⟩
theorem mC_161 : mCl 161 = 10 := by decide +kernel
theorem fV_161 : FV 161 aM_161 := ⟨(gW (gT5 (i := 94) rfl) rfl), (gW (gT5 (i := 95) rfl) rfl), rfl, Or.inl ⟨aCl_9, by rw [mC_161]; rfl, rfl, by rw [mC_161]; decide⟩⟩
set_option maxRecDepth 100000 in
theorem aA_162 : aMt[162]? = some aM_162 := rfl
theorem fM_162 : FM aM_162 := ⟨rfl, by decide, (plainFor_of_name rfl), by decide +kernel, by decide +kernel, by decide +kernel⟩
theorem fC_162 : FC aM_162 := ⟨(gW (gT5 (i := 100) rfl) rfl), (gW (gT1 (i := 10) rfl) rfl)⟩
theorem fS_162 : FS aM_162 := ⟨(gW (gT5 (i := 99) rfl) rfl), rfl⟩
set_option maxRecDepth 100000 in
theorem aA_163 : aMt[163]? = some aM_163 := rfl
theorem fM_163 : FM aM_163 := ⟨rfl, by decide, (plainFor_of_name rfl), by decide +kernel, by decide +kernel, by decide +kernel⟩
theorem fC_163 : FC aM_163 := ⟨(gW (gT5 (i := 103) rfl) rfl), (gW (gT1 (i := 10) rfl) rfl)⟩
theorem fS_163 : FS aM_163 := ⟨(gW (gT5 (i := 102) rfl) rfl), rfl⟩
set_option maxRecDepth 100000 in
theorem aA_164 : aMt[164]? = some aM_164 := rfl
theorem fM_164 : FM aM_164 := ⟨rfl, by decide, (plainFor_of_name rfl), by decide +kernel, by decide +kernel, by decide +kernel⟩
theorem fC_164 : FC aM_164 := ⟨(gW (gT5 (i := 109) rfl) rfl), (gW (gT1 (i := 10) rfl) rfl)⟩
theorem mC_164 : mCl 164 = 10 := by decide +kernel
theorem fV_164 : FV 164 aM_164 := ⟨(gW (gT5 (i := 108) rfl) rfl), (gW (gT0 (i := 24) rfl) rfl), rfl, Or.inl ⟨aCl_9, by rw [mC_164]; rfl, rfl, by rw [mC_164]; decide⟩⟩
set_option maxRecDepth 100000 in
theorem aA_165 : aMt[165]? = some aM_165 := rfl
theorem fM_165 : FM aM_165 := ⟨rfl, by decide, (plainFor_of_name rfl), by decide +kernel, by decide +kernel, by decide +kernel⟩
theorem fC_165 : FC aM_165 := ⟨(gW (gT5 (i := 113) rfl) rfl), (gW (gT1 (i := 10) rfl) rfl)⟩
theorem mC_165 : mCl 165 = 10 := by decide +kernel
theorem fV_165 : FV 165 aM_165 := ⟨(gW (gT5 (i := 112) rfl) rfl), (gW (gT0 (i := 25) rfl) rfl), rfl, Or.inl ⟨aCl_9, by rw [mC_165]; rfl, rfl, by rw [mC_165]; decide⟩⟩
set_option maxRecDepth 100000 in
theorem aA_166 : aMt[166]? = some aM_166 := rfl
theorem fM_166 : FM aM_166 := ⟨rfl, by decide, (plainFor_of_name rfl), by decide +kernel, by decide +kernel, by decide +kernel⟩
theorem fC_166 : FC aM_166 := ⟨(gW (gT5 (i := 116) rfl) rfl), (gW (gT1 (i := 10) rfl) rfl)⟩
theorem fS_166 : FS aM_166 := ⟨(gW (gT5 (i := 115) rfl) rfl), rfl⟩
set_option maxRecDepth 100000 in
theorem aA_167 : aMt[167]? = some aM_167 := rfl
theorem fM_167 : FM aM_167 := ⟨rfl, by decide, (plainFor_of_name rfl), by decide +kernel, by decide +kernel, by decide +kernel⟩
theorem fC_167 : FC aM_167 := ⟨(gW (gT5 (i := 119) rfl) rfl), (gW (gT1 (i := 10) rfl) rfl)⟩
theorem fS_167 : FS aM_167 := ⟨(gW (gT5 (i := 118) rfl) rfl), rfl⟩
set_option maxRecDepth 100000 in
theorem aA_168 : aMt[168]? = some aM_168 := rfl
theorem fM_168 : FM aM_168 := ⟨rfl, by decide, (plainFor_of_name rfl), by decide +kernel, by decide +kernel, by decide +kernel⟩
theorem fC_168 : FC aM_168 := ⟨(gW (gT5 (i := 123) rfl) rfl), (gW (gT1 (i := 10) rfl) rfl)⟩
theorem mC_168 : mCl 168 = 10 := by decide +kernel
theorem fV_168 : FV 168 aM_168 := ⟨(gW (gT5 (i := 122) rfl) rfl), (gW (gT0 (i := 26) rfl) rfl), rfl, Or.inl ⟨aCl_9, by rw [mC_168]; rfl, rfl, by rw [mC_168]; decide⟩⟩
set_option maxRecDepth 100000 in
theorem aA_169 : aMt[169]? = some aM_169 := rfl
theorem fM_169 : FM aM_169 := ⟨rfl, by decide, (plainFor_of_name rfl), by decide +kernel, by decide +kernel, by decide +kernel⟩
theorem fC_169 : FC aM_169 := ⟨(gW (gT5 (i := 127) rfl) rfl), (gW (gT1 (i := 10) rfl) rfl)⟩
theorem mC_169 : mCl 169 = 10 := by decide +kernel
theorem fV_169 : FV 169 aM_169 := ⟨(gW (gT5 (i := 126) rfl) rfl), (gW (gT0 (i := 27) rfl) rfl), rfl, Or.inl ⟨aCl_9, by rw [mC_169]; rfl, rfl, by rw [mC_169]; decide⟩⟩
set_option maxRecDepth 100000 in
theorem aA_170 : aMt[170]? = some aM_170 := rfl
theorem fM_170 : FM aM_170 := ⟨rfl, by decide, (plainFor_of_name rfl), by decide +kernel, by decide +kernel, by decide +kernel⟩
theorem fC_170 : FC aM_170 := ⟨(gW (gT5 (i := 131) rfl) rfl), (gW (gT1 (i := 10) rfl) rfl)⟩
theorem mC_170 : mCl 170 = 10 := by decide +kernel
theorem fV_170 : FV 170 aM_170 := ⟨(gW (gT5 (i := 130) rfl) rfl), (gW (gT0 (i := 28) rfl) rfl), rfl, Or.inl ⟨aCl_9, by rw [mC_170]; rfl, rfl, by rw [mC_170]; decide⟩⟩
set_option maxRecDepth 100000 in
theorem aA_171 : aMt[171]? = some aM_171 := rfl
theorem fM_171 : FM aM_171 := ⟨rfl, by decide, (plainFor_of_name rfl), by decide +kernel, by decide +kernel, by decide +kernel⟩
theorem fC_171 : FC aM_171 := ⟨(gW (gT5 (i := 135) rfl) rfl), (gW (gT1 (i := 10) rfl) rfl)⟩
theorem mC_171 : mCl 171 = 10 := by decide +kernel
theorem fV_171 : FV 171 aM_171 := ⟨(gW (gT5 (i := 134) rfl) rfl), (gW (gT0 (i := 29) rfl) rfl), rfl, Or.inl ⟨aCl_9, by rw [mC_171]; rfl, rfl, by rw [mC_171]; decide⟩⟩
set_option maxRecDepth 100000 in
theorem aA_172 : aMt[172]? = some aM_172 := rfl
theorem fM_172 : FM aM_172 := ⟨rfl, by decide, (plainFor_of_name rfl), by decide +kernel, by decide +kernel, by decide +kernel⟩
theorem fC_172 : FC aM_172 := ⟨(gW (gT5 (i := 139) rfl) rfl), (gW (gT1 (i := 10) rfl) rfl)⟩
theorem mC_172 : mCl 172 = 10 := by decide +kernel
theorem fV_172 : FV 172 aM_172 := ⟨(gW (gT5 (i := 138) rfl) rfl), (gW (gT0 (i := 30) rfl) rfl), rfl, Or.inl ⟨aCl_9, by rw [mC_172]; rfl, rfl, by rw [mC_172]; decide⟩⟩
set_option maxRecDepth 100000 in
theorem aA_173 : aMt[173]? = some aM_173 := rfl
theorem fM_173 : FM aM_173 := ⟨rfl, by decide, (plainFor_of_name rfl), by decide +kernel, by decide +kernel, by decide +kernel⟩
theorem fC_173 : FC aM_173 := ⟨(gW (gT5 (i := 144) rfl) rfl), (gW (gT1 (i := 10) rfl) rfl)⟩
theorem mC_173 : mCl 173 = 10 := by decide +kernel
theorem fV_173 : FV 173 aM_173 := ⟨(gW (gT5 (i := 143) rfl) rfl), (gW (gT0 (i := 31) rfl) rfl), rfl, Or.inl ⟨aCl_9, by rw [mC_173]; rfl, rfl, by rw [mC_173]; decide⟩⟩
set_option maxRecDepth 100000 in
theorem aA_174 : aMt[174]? = some aM_174 := rfl
theorem fM_174 : FM aM_174 := ⟨rfl, by decide, (plainFor_of_name rfl), by decide +kernel, by decide +kernel, by decide +kernel⟩
theorem fC_174 : FC aM_174 := ⟨(gW (gT5 (i := 148) rfl) rfl), (gW (gT1 (i := 10) rfl) rfl)⟩
theorem mC_174 : mCl 174 = 10 := by decide +kernel
theorem fV_174 : FV 174 aM_174 := ⟨(gW (gT5 (i := 147) rfl) rfl), (gW (gT0 (i := 32) rfl) rfl), rfl, Or.inl ⟨aCl_9, by rw [mC_174]; rfl, rfl, by rw [mC_174]; decide⟩⟩
set_option maxRecDepth 100000 in
theorem aA_175 : aMt[175]? = some aM_175 := rfl
theorem fM_175 : FM aM_175 := ⟨rfl, by decide, (plainFor_of_name rfl), by decide +kernel, by decide +kernel, by decide +kernel⟩
theorem fC_175 : FC aM_175 := ⟨(gW (gT5 (i := 151) rfl) rfl), (gW (gT1 (i := 10) rfl) rfl)⟩
theorem fS_175 : FS aM_175 := ⟨(gW (gT5 (i := 150) rfl) rfl), rfl⟩
set_option maxRecDepth 100000 in
theorem aA_176 : aMt[176]? = some aM_176 := rfl
theorem fM_176 : FM aM_176 := ⟨rfl, by decide, (plainFor_of_name rfl), by decide +kernel, by decide +kernel, by decide +kernel⟩
theorem fC_176 : FC aM_176 := ⟨(gW (gT5 (i := 154) rfl) rfl), (gW (gT1 (i := 10) rfl) rfl)⟩
theorem fS_176 : FS aM_176 := ⟨(gW (gT5 (i := 153) rfl) rfl), rfl⟩
set_option maxRecDepth 100000 in
theorem aA_177 : aMt[177]? = some aM_177 := rfl
theorem fM_177 : FM aM_177 := ⟨rfl, by decide, (plainFor_of_name rfl), by decide +kernel, by decide +kernel, by decide +kernel⟩
theorem fC_177 : FC aM_177 := ⟨(gW (gT5 (i := 158) rfl) rfl), (gW (gT1 (i := 10) rfl) rfl)⟩
theorem fS_177 : FS aM_177 := ⟨(gW (gT5 (i := 157) rfl) rfl), rfl⟩
set_option maxRecDepth 100000 in
theorem aA_178 : aMt[178]? = some aM_178 := rfl
theorem fM_178 : FM aM_178 := ⟨rfl, by decide, (plainFor_of_name rfl), by decide +kernel, by decide +kernel, by decide +kernel⟩
theorem fC_178 : FC aM_178 := ⟨(gW (gT5 (i := 161) rfl) rfl), (gW (gT1 (i := 10) rfl) rfl)⟩
theorem fS_178 : FS aM_178 := ⟨(gW (gT5 (i := 160) rfl) rfl), rfl⟩
set_option maxRecDepth 100000 in
theorem aA_179 : aMt[179]? = some aM_179 := rfl
theorem fM_179 : FM aM_179 := ⟨rfl, by decide, (plainFor_of_name rfl), by decide +kernel, by decide +kernel, by decide +kernel⟩
theorem fC_179 : FC aM_179 := ⟨(gW (gT5 (i := 164) rfl) rfl), (gW (gT1 (i := 10) rfl) rfl)⟩
theorem fS_179 : FS aM_179 := ⟨(gW (gT5 (i := 163) rfl) rfl), rfl⟩
set_option maxRecDepth 100000 in
theorem aA_180 : aMt[180]? = some aM_180 := rfl
theorem fM_180 : FM aM_180 := ⟨rfl, by decide, (plainFor_of_name rfl), by decide +kernel, by decide +kernel, by decide +kernel⟩
theorem fC_180 : FC aM_180 := ⟨(gW (gT5 (i := 167) rfl) rfl), (gW (gT1 (i := 10) rfl) rfl)⟩
theorem fS_180 : FS aM_180 := ⟨(gW (gT5 (i := 166) rfl) rfl), rfl⟩
set_option maxRecDepth 100000 in
theorem aA_181 : aMt[181]? = some aM_181 := rfl
theorem fM_181 : FM aM_181 := ⟨rfl, by decide, (plainFor_of_name rfl), by decide +kernel, by decide +kernel, by decide +kernel⟩
theorem fC_181 : FC aM_181 := ⟨(gW (gT5 (i := 171) rfl) rfl), (gW (gT1 (i := 10) rfl) rfl)⟩
theorem mC_181 : mCl 181 = 10 := by decide +kernel
theorem fV_181 : FV 181 aM_181 := ⟨(gW (gT5 (i := 170) rfl) rfl), (gW (gT0 (i := 33) rfl) rfl), rfl, Or.inl ⟨aCl_9, by rw [mC_181]; rfl, rfl, by rw [mC_181]; decide⟩⟩
set_option maxRecDepth 100000 in
theorem aA_182 : aMt[182]? = some aM_182 := rfl
theorem fM_182 : FM aM_182 := ⟨rfl, by decide, (plainFor_of_name rfl), by decide +kernel, by decide +kernel, by decide +kernel⟩
theorem fC_182 : FC aM_182 := ⟨(gW (gT5 (i := 174) rfl) rfl), (gW (gT1 (i := 10) rfl) rfl)⟩
theorem fS_182 : FS aM_182 := ⟨(gW (gT5 (i := 173) rfl) rfl), rfl⟩
set_option maxRecDepth 100000 in
theorem aA_183 : aMt[183]? = some aM_183 := rfl
theorem fM_183 : FM aM_183 := ⟨rfl, by decide, (plainFor_of_name rfl), by decide +kernel, by decide +kernel, by decide +kernel⟩
theorem fC_183 : FC aM_183 := ⟨(gW (gT5 (i := 181) rfl) rfl), (gW (gT1 (i := 10) rfl) rfl)⟩
theorem mC_183 : mCl 183 = 10 := by decide +kernel
theorem fV_183 : FV 183 aM_183 := ⟨(gW (gT5 (i := 180) rfl) rfl), (gW (gT0 (i := 34) rfl) rfl), rfl, Or.inl ⟨aCl_9, by rw [mC_183]; rfl, rfl, by rw [mC_183]; decide⟩⟩
set_option maxRecDepth 100000 in
theorem aA_184 : aMt[184]? = some aM_184 := rfl
theorem fM_184 : FM aM_184 := ⟨rfl, by decide, (plainFor_of_name rfl), by decide +kernel, by decide +kernel, by decide +kernel⟩
theorem fC_184 : FC aM_184 := ⟨(gW (gT5 (i := 185) rfl) rfl), (gW (gT1 (i := 10) rfl) rfl)⟩
theorem mC_184 : mCl 184 = 10 := by decide +kernel
theorem fV_184 : FV 184 aM_184 := ⟨(gW (gT5 (i := 184) rfl) rfl), (gW (gT0 (i := 35) rfl) rfl), rfl, Or.inl ⟨aCl_9, by rw [mC_184]; rfl, rfl, by rw [mC_184]; decide⟩⟩
set_option maxRecDepth 100000 in
theorem aA_185 : aMt[185]? = some aM_185 := rfl
theorem fM_185 : FM aM_185 := ⟨rfl, by decide, (plainFor_of_name rfl), by decide +kernel, by decide +kernel, by decide +kernel⟩
theorem fC_185 : FC aM_185 := ⟨(gW (gT5 (i := 189) rfl) rfl), (gW (gT1 (i := 10) rfl) rfl)⟩
theorem mC_185 : mCl 185 = 10 := by decide +kernel
theorem fV_185 : FV 185 aM_185 := ⟨(gW (gT5 (i := 188) rfl) rfl), (gW (gT0 (i := 36) rfl) rfl), rfl, Or.inl ⟨aCl_9, by rw [mC_185]; rfl, rfl, by rw [mC_185]; decide⟩⟩
set_option maxRecDepth 100000 in
theorem aA_186 : aMt[186]? = some aM_186 := rfl
theorem fM_186 : FM aM_186 := ⟨rfl, by decide, (plainFor_of_name rfl), by decide +kernel, by decide +kernel, by decide +kernel⟩
theorem fC_186 : FC aM_186 := ⟨(gW (gT5 (i := 193) rfl) rfl), (gW (gT1 (i := 10) rfl) rfl)⟩
theorem mC_186 : mCl 186 = 10 := by decide +kernel
theorem fV_186 : FV 186 aM_186 := ⟨(gW (gT5 (i := 192) rfl) rfl), (gW (gT0 (i := 37) rfl) rfl), rfl, Or.inl ⟨aCl_9, by rw [mC_186]; rfl, rfl, by rw [mC_186]; decide⟩⟩
set_option maxRecDepth 100000 in
theorem aA_187 : aMt[187]? = some aM_187 := rfl
theorem fM_187 : FM aM_187 := ⟨rfl, by decide, (plainFor_of_name rfl), by decide +kernel, by decide +kernel, by decide +kernel⟩
theorem fC_187 : FC aM_187 := ⟨(gW (gT5 (i := 197) rfl) rfl), (gW (gT1 (i := 10) rfl) rfl)⟩
theorem mC_187 : mCl 187 = 10 := by decide +kernel
theorem fV_187 : FV 187 aM_187 := ⟨(gW (gT5 (i := 196) rfl) rfl), (gW (gT0 (i := 38) rfl) rfl), rfl, Or.inl ⟨aCl_9, by rw [mC_187]; rfl, rfl, by rw [mC_187]; decide⟩⟩
set_option maxRecDepth 100000 in
theorem aA_188 : aMt[188]? = some aM_188 := rfl
theorem fM_188 : FM aM_188 := ⟨rfl, by decide, (plainFor_of_name rfl), by decide +kernel, by decide +kernel, by decide +kernel⟩
theorem fC_188 : FC aM_188 := ⟨(gW (gT5 (i := 201) rfl) rfl), (gW (gT1 (i := 10) rfl) rfl)⟩
theorem mC_188 : mCl 188 = 10 := by decide +kernel
theorem fV_188 : FV 188 aM_188 := ⟨(gW (gT5 (i := 200) rfl) rfl), (gW (gT0 (i := 39) rfl) rfl), rfl, Or.inl ⟨aCl_9, by rw [mC_188]; rfl, rfl, by rw [mC_188]; decide⟩⟩
set_option maxRecDepth 100000 in
theorem aA_189 : aMt[189]? = some aM_189 := rfl
theorem fM_189 : FM aM_189 := ⟨rfl, by decide, (plainFor_of_name rfl), by decide +kernel, by decide +kernel, by decide +kernel⟩
theorem fC_189 : FC aM_189 := ⟨(gW (gT5 (i := 205) rfl) rfl), (gW (gT1 (i := 10) rfl) rfl)⟩
theorem mC_189 : mCl 189 = 10 := by decide +kernel
theorem fV_189 : FV 189 aM_189 := ⟨(gW (gT5 (i := 204) rfl) rfl), (gW (gT0 (i := 40) rfl) rfl), rfl, Or.inl ⟨aCl_9, by rw [mC_189]; rfl, rfl, by rw [mC_189]; decide⟩⟩
set_option maxRecDepth 100000 in
theorem aA_190 : aMt[190]? = some aM_190 := rfl
theorem fM_190 : FM aM_190 := ⟨rfl, by decide, (plainFor_of_name rfl), by decide +kernel, by decide +kernel, by decide +kernel⟩
theorem fC_190 : FC aM_190 := ⟨(gW (gT5 (i := 209) rfl) rfl), (gW (gT1 (i := 10) rfl) rfl)⟩
theorem mC_190 : mCl 190 = 10 := by decide +kernel
theorem fV_190 : FV 190 aM_190 := ⟨(gW (gT5 (i := 208) rfl) rfl), (gW (gT0 (i := 41) rfl) rfl), rfl, Or.inl ⟨aCl_9, by rw [mC_190]; rfl, rfl, by rw [mC_190]; decide⟩⟩
set_option maxRecDepth 100000 in
theorem aA_191 : aMt[191]? = some aM_191 := rfl
theorem fM_191 : FM aM_191 := ⟨rfl, by decide, (plainFor_of_name rfl), by decide +kernel, by decide +kernel, by decide +kernel⟩
theorem fC_191 : FC aM_191 := ⟨(gW (gT5 (i := 213) rfl) rfl), (gW (gT1 (i := 10) rfl) rfl)⟩
theorem mC_191 : mCl 191 = 10 := by decide +kernel
theorem fV_191 : FV 191 aM_191 := ⟨(gW (gT5 (i := 212) rfl) rfl), (gW (gT0 (i := 42) rfl) rfl), rfl, Or.inl ⟨aCl_9, by rw [mC_191]; rfl, rfl, by rw [mC_191]; decide⟩⟩
set_option maxRecDepth 100000 in
theorem aA_192 : aMt[192]? = some aM_192 := rfl
theorem fM_192 : FM aM_192 := ⟨rfl, by decide, (plainFor_of_name rfl), by decide +kernel, by decide +kernel, by decide +kernel⟩
theorem fC_192 : FC aM_192 := ⟨(gW (gT5 (i := 217) rfl) rfl), (gW (gT1 (i := 10) rfl) rfl)⟩
theorem mC_192 : mCl 192 = 10 := by decide +kernel
theorem fV_192 : FV 192 aM_192 := ⟨(gW (gT5 (i := 216) rfl) rfl), (gW (gT0 (i := 43) rfl) rfl), rfl, Or.inl ⟨aCl_9, by rw [mC_192]; rfl, rfl, by rw [mC_192]; decide⟩⟩
set_option maxRecDepth 100000 in
theorem aA_193 : aMt[193]? = some aM_193 := rfl
theorem fM_193 : FM aM_193 := ⟨rfl, by decide, (plainFor_of_name rfl), by decide +kernel, by decide +kernel, by decide +kernel⟩
theorem fC_193 : FC aM_193 := ⟨(gW (gT5 (i := 221) rfl) rfl), (gW (gT1 (i := 10) rfl) rfl)⟩
theorem mC_193 : mCl 193 = 10 := by decide +kernel
theorem fV_193 : FV 193 aM_193 := ⟨(gW (gT5 (i := 220) rfl) rfl), (gW (gT0 (i := 44) rfl) rfl), rfl, Or.inl ⟨aCl_9, by rw [mC_193]; rfl, rfl, by rw [mC_193]; decide⟩⟩
set_option maxRecDepth 100000 in
theorem aA_194 : aMt[194]? = some aM_194 := rfl
theorem fM_194 : FM aM_194 := ⟨rfl, by decide, (plainFor_of_name rfl), by decide +kernel, by decide +kernel, by decide +kernel⟩
theorem fC_194 : FC aM_194 := ⟨(gW (gT5 (i := 225) rfl) rfl), (gW (gT1 (i := 10) rfl) rfl)⟩
theorem mC_194 : mCl 194 = 10 := by decide +kernel
theorem fV_194 : FV 194 aM_194 := ⟨(gW (gT5 (i := 224) rfl) rfl), (gW (gT0 (i := 45) rfl) rfl), rfl, Or.inl ⟨aCl_9, by rw [mC_194]; rfl, rfl, by rw [mC_194]; decide⟩⟩
set_option maxRecDepth 100000 in
theorem aA_195 : aMt[195]? = some aM_195 := rfl
theorem fM_195 : FM aM_195 := ⟨rfl, by decide, (plainFor_of_name rfl), by decide +kernel, by decide +kernel, by decide +kernel⟩
theorem fC_195 : FC aM_195 := ⟨(gW (gT5 (i := 229) rfl) rfl), (gW (gT1 (i := 10) rfl) rfl)⟩
theorem mC_195 : mCl 195 = 10 := by decide +kernel
theorem fV_195 : FV 195 aM_195 := ⟨(gW (gT5 (i := 228) rfl) rfl), (gW (gT0 (i := 46) rfl) rfl), rfl, Or.inl ⟨aCl_9, by rw [mC_195]; rfl, rfl, by rw [mC_195]; decide⟩⟩
set_option maxRecDepth 100000 in
theorem aA_196 : aMt[196]? = some aM_196 := rfl
theorem fM_196 : FM aM_196 := ⟨rfl, by decide, (plainFor_of_name rfl), by decide +kernel, by decide +kernel, by decide +kernel⟩
theorem fC_196 : FC aM_196 := ⟨(gW (gT5 (i := 233) rfl) rfl), (gW (gT1 (i := 10) rfl) rfl)⟩
theorem mC_196 : mCl 196 = 10 := by decide +kernel
theorem fV_196 : FV 196 aM_196 := ⟨(gW (gT5 (i := 232) rfl) rfl), (gW (gT0 (i := 47) rfl) rfl), rfl, Or.inl ⟨aCl_9, by rw [mC_196]; rfl, rfl, by rw [mC_196]; decide⟩⟩
set_option maxRecDepth 100000 in
theorem aA_197 : aMt[197]? = some aM_197 := rfl
theorem fM_197 : FM aM_197 := ⟨rfl, by decide, (plainFor_of_name rfl), by decide +kernel, by decide +kernel, by decide +kernel⟩
theorem fC_197 : FC aM_197 := ⟨(gW (gT5 (i := 237) rfl) rfl), (gW (gT1 (i := 10) rfl) rfl)⟩
theorem mC_197 : mCl 197 = 10 := by decide +kernel
theorem fV_197 : FV 197 aM_197 := ⟨(gW (gT5 (i := 235) rfl) rfl), (gW (gT5 (i := 236) rfl) rfl), rfl, Or.inl ⟨aCl_9, by rw [mC_197]; rfl, rfl, by rw [mC_197]; decide⟩⟩
set_option maxRecDepth 100000 in
theorem aA_198 : aMt[198]? = some aM_198 := rfl
theorem fM_198 : FM aM_198 := ⟨rfl, by decide, (plainFor_of_name rfl), by decide +kernel, by decide +kernel, by decide +kernel⟩
theorem fC_198 : FC aM_198 := ⟨(gW (gT6 (i := 1) rfl) rfl), (gW (gT1 (i := 10) rfl) rfl)⟩
theorem mC_198 : mCl 198 = 10 := by decide +kernel
theorem fV_198 : FV 198 aM_198 := ⟨(gW (gT6 (i := 0) rfl) rfl), (gW (gT0 (i := 48) rfl) rfl), rfl, Or.inl ⟨aCl_9, by rw [mC_198]; rfl, rfl, by rw [mC_198]; decide⟩⟩
set_option maxRecDepth 100000 in
theorem aA_199 : aMt[199]? = some aM_199 := rfl
theorem fM_199 : FM aM_199 := ⟨rfl, by decide, (plainFor_of_name rfl), by decide +kernel, by decide +kernel, by decide +kernel⟩
theorem fC_199 : FC aM_199 := ⟨(gW (gT6 (i := 5) rfl) rfl), (gW (gT1 (i := 10) rfl) rfl)⟩
theorem mC_199 : mCl 199 = 10 := by decide +kernel
theorem fV_199 : FV 199 aM_199 := ⟨(gW (gT6 (i := 3) rfl) rfl), (gW (gT6 (i := 4) rfl) rfl), rfl, Or.inl ⟨aCl_9, by rw [mC_199]; rfl, rfl, by rw [mC_199]; decide⟩⟩
set_option maxRecDepth 100000 in
theorem aA_200 : aMt[200]? = some aM_200 := rfl
theorem fM_200 : FM aM_200 := ⟨rfl, by decide, (plainFor_of_name rfl), by decide +kernel, by decide +kernel, by decide +kernel⟩
theorem fC_200 : FC aM_200 := ⟨(gW (gT6 (i := 9) rfl) rfl), (gW (gT1 (i := 10) rfl) rfl)⟩
theorem mC_200 : mCl 200 = 10 := by decide +kernel
theorem fV_200 : FV 200 aM_200 := ⟨(gW (gT6 (i := 7) rfl) rfl), (gW (gT6 (i := 8) rfl) rfl), rfl, Or.inl ⟨aCl_9, by rw [mC_200]; rfl, rfl, by rw [mC_200]; decide⟩⟩
set_option maxRecDepth 100000 in
theorem aA_201 : aMt[201]? = some aM_201 := rfl
theorem fM_201 : FM aM_201 := ⟨rfl, by decide, (plainFor_of_name rfl), by decide +kernel, by decide +kernel, by decide +kernel⟩
theorem fC_201 : FC aM_201 := ⟨(gW (gT6 (i := 14) rfl) rfl), (gW (gT1 (i := 10) rfl) rfl)⟩
theorem mC_201 : mCl 201 = 10 := by decide +kernel
theorem fV_201 : FV 201 aM_201 := ⟨(gW (gT6 (i := 12) rfl) rfl), (gW (gT6 (i := 13) rfl) rfl), rfl, Or.inl ⟨aCl_9, by rw [mC_201]; rfl, rfl, by rw [mC_201]; decide⟩⟩
set_option maxRecDepth 100000 in
theorem aA_202 : aMt[202]? = some aM_202 := rfl
theorem fM_202 : FM aM_202 := ⟨rfl, by decide, (plainFor_of_name rfl), by decide +kernel, by decide +kernel, by decide +kernel⟩
theorem fC_202 : FC aM_202 := ⟨(gW (gT6 (i := 18) rfl) rfl), (gW (gT1 (i := 10) rfl) rfl)⟩
theorem mC_202 : mCl 202 = 10 := by decide +kernel
theorem fV_202 : FV 202 aM_202 := ⟨(gW (gT6 (i := 16) rfl) rfl), (gW (gT6 (i := 17) rfl) rfl), rfl, Or.inl ⟨aCl_9, by rw [mC_202]; rfl, rfl, by rw [mC_202]; decide⟩⟩
set_option maxRecDepth 100000 in
theorem aA_203 : aMt[203]? = some aM_203 := rfl
theorem fM_203 : FM aM_203 := ⟨rfl, by decide, (plainFor_of_name rfl), by decide +kernel, by decide +kernel, by decide +kernel⟩
theorem fC_203 : FC aM_203 := ⟨(gW (gT6 (i := 22) rfl) rfl), (gW (gT1 (i := 10) rfl) rfl)⟩
theorem mC_203 : mCl 203 = 10 := by decide +kernel
theorem fV_203 : FV 203 aM_203 := ⟨(gW (gT6 (i := 20) rfl) rfl), (gW (gT6 (i := 21) rfl) rfl), rfl, Or.inl ⟨aCl_9, by rw [mC_203]; rfl, rfl, by rw [mC_203]; decide⟩⟩
set_option maxRecDepth 100000 in
theorem aA_204 : aMt[204]? = some aM_204 := rfl
theorem fM_204 : FM aM_204 := ⟨rfl, by decide, (plainFor_of_name rfl), by decide +kernel, by decide +kernel, by decide +kernel⟩
theorem fC_204 : FC aM_204 := ⟨(gW (gT6 (i := 26) rfl) rfl), (gW (gT1 (i := 10) rfl) rfl)⟩
theorem mC_204 : mCl 204 = 10 := by decide +kernel
theorem fV_204 : FV 204 aM_204 := ⟨(gW (gT6 (i := 25) rfl) rfl), (gW (gT0 (i := 49) rfl) rfl), rfl, Or.inl ⟨aCl_9, by rw [mC_204]; rfl, rfl, by rw [mC_204]; decide⟩⟩
set_option maxRecDepth 100000 in
theorem aA_205 : aMt[205]? = some aM_205 := rfl
theorem fM_205 : FM aM_205 := ⟨rfl, by decide, (plainFor_of_name rfl), by decide +kernel, by decide +kernel, by decide +kernel⟩
theorem fC_205 : FC aM_205 := ⟨(gW (gT6 (i := 30) rfl) rfl), (gW (gT1 (i := 10) rfl) rfl)⟩
theorem mC_205 : mCl 205 = 10 := by decide +kernel
theorem fV_205 : FV 205 aM_205 := ⟨(gW (gT6 (i := 29) rfl) rfl), (gW (gT0 (i := 50) rfl) rfl), rfl, Or.inl ⟨aCl_9, by rw [mC_205]; rfl, rfl, by rw [mC_205]; decide⟩⟩
set_option maxRecDepth 100000 in
theorem aA_206 : aMt[206]? = some aM_206 := rfl
theorem fM_206 : FM aM_206 := ⟨rfl, by decide, (plainFor_of_name rfl), by decide +kernel, by decide +kernel, by decide +kernel⟩
theorem fC_206 : FC aM_206 := ⟨(gW (gT6 (i := 36) rfl) rfl), (gW (gT1 (i := 10) rfl) rfl)⟩
theorem mC_206 : mCl 206 = 10 := by decide +kernel
theorem fV_206 : FV 206 aM_206 := ⟨(gW (gT6 (i := 35) rfl) rfl), (gW (gT0 (i := 51) rfl) rfl), rfl, Or.inl ⟨aCl_9, by rw [mC_206]; rfl, rfl, by rw [mC_206]; decide⟩⟩
set_option maxRecDepth 100000 in
theorem aA_207 : aMt[207]? = some aM_207 := rfl
theorem fM_207 : FM aM_207 := ⟨rfl, by decide, (plainFor_of_name rfl), by decide +kernel, by decide +kernel, by decide +kernel⟩
theorem fC_207 : FC aM_207 := ⟨(gW (gT6 (i := 40) rfl) rfl), (gW (gT1 (i := 10) rfl) rfl)⟩
theorem mC_207 : mCl 207 = 10 := by decide +kernel
theorem fV_207 : FV 207 aM_207 := ⟨(gW (gT6 (i := 39) rfl) rfl), (gW (gT0 (i := 52) rfl) rfl), rfl, Or.inl ⟨aCl_9, by rw [mC_207]; rfl, rfl, by rw [mC_207]; decide⟩⟩
set_option maxRecDepth 100000 in
theorem aA_208 : aMt[208]? = some aM_208 := rfl
theorem fM_208 : FM aM_208 := ⟨rfl, by decide, (plainFor_of_name rfl), by decide +kernel, by decide +kernel, by decide +kernel⟩
theorem fC_208 : FC aM_208 := ⟨(gW (gT6 (i := 44) rfl) rfl), (gW (gT1 (i := 10) rfl) rfl)⟩
theorem mC_208 : mCl 208 = 10 := by decide +kernel
theorem fV_208 : FV 208 aM_208 := ⟨(gW (gT6 (i := 43) rfl) rfl), (gW (gT0 (i := 53) rfl) rfl), rfl, Or.inl ⟨aCl_9, by rw [mC_208]; rfl, rfl, by rw [mC_208]; decide⟩⟩
set_option maxRecDepth 100000 in
theorem aA_209 : aMt[209]? = some aM_209 := rfl
theorem fM_209 : FM aM_209 := ⟨rfl, by decide, (plainFor_of_name rfl), by decide +kernel, by decide +kernel, by decide +kernel⟩
theorem fC_209 : FC aM_209 := ⟨(gW (gT6 (i := 51) rfl) rfl), (gW (gT1 (i := 10) rfl) rfl)⟩
theorem mC_209 : mCl 209 = 10 := by decide +kernel
theorem fV_209 : FV 209 aM_209 := ⟨(gW (gT6 (i := 50) rfl) rfl), (gW (gT0 (i := 54) rfl) rfl), rfl, Or.inl ⟨aCl_9, by rw [mC_209]; rfl, rfl, by rw [mC_209]; decide⟩⟩
set_option maxRecDepth 100000 in
theorem aA_210 : aMt[210]? = some aM_210 := rfl
theorem fM_210 : FM aM_210 := ⟨rfl, by decide, (plainFor_of_name rfl), by decide +kernel, by decide +kernel, by decide +kernel⟩
theorem fC_210 : FC aM_210 := ⟨(gW (gT6 (i := 55) rfl) rfl), (gW (gT1 (i := 10) rfl) rfl)⟩
theorem mC_210 : mCl 210 = 10 := by decide +kernel
theorem fV_210 : FV 210 aM_210 := ⟨(gW (gT6 (i := 54) rfl) rfl), (gW (gT0 (i := 55) rfl) rfl), rfl, Or.inl ⟨aCl_9, by rw [mC_210]; rfl, rfl, by rw [mC_210]; decide⟩⟩
set_option maxRecDepth 100000 in
theorem aA_211 : aMt[211]? = some aM_211 := rfl
theorem fM_211 : FM aM_211 := ⟨rfl, by decide, (plainFor_of_name rfl), by decide +kernel, by decide +kernel, by decide +kernel⟩
theorem fC_211 : FC aM_211 := ⟨(gW (gT6 (i := 60) rfl) rfl), (gW (gT1 (i := 10) rfl) rfl)⟩
theorem mC_211 : mCl 211 = 10 := by decide +kernel
theorem fV_211 : FV 211 aM_211 := ⟨(gW (gT6 (i := 59) rfl) rfl), (gW (gT0 (i := 56) rfl) rfl), rfl, Or.inl ⟨aCl_9, by rw [mC_211]; rfl, rfl, by rw [mC_211]; decide⟩⟩
set_option maxRecDepth 100000 in
theorem aA_212 : aMt[212]? = some aM_212 := rfl
theorem fM_212 : FM aM_212 := ⟨rfl, by decide, (plainFor_of_name rfl), by decide +kernel, by decide +kernel, by decide +kernel⟩
theorem fC_212 : FC aM_212 := ⟨(gW (gT6 (i := 64) rfl) rfl), (gW (gT1 (i := 10) rfl) rfl)⟩
theorem mC_212 : mCl 212 = 10 := by decide +kernel
theorem fV_212 : FV 212 aM_212 := ⟨(gW (gT6 (i := 63) rfl) rfl), (gW (gT0 (i := 57) rfl) rfl), rfl, Or.inl ⟨aCl_9, by rw [mC_212]; rfl, rfl, by rw [mC_212]; decide⟩⟩
set_option maxRecDepth 100000 in
theorem aA_213 : aMt[213]? = some aM_213 := rfl
theorem fM_213 : FM aM_213 := ⟨rfl, by decide, (plainFor_of_name rfl), by decide +kernel, by decide +kernel, by decide +kernel⟩
theorem fC_213 : FC aM_213 := ⟨(gW (gT6 (i := 67) rfl) rfl), (gW (gT1 (i := 10) rfl) rfl)⟩
theorem fS_213 : FS aM_213 := ⟨(gW (gT6 (i := 66) rfl) rfl), rfl⟩
set_option maxRecDepth 100000 in
theorem aA_214 : aMt[214]? = some aM_214 := rfl
theorem fM_214 : FM aM_214 := ⟨rfl, by decide, (plainFor_of_name rfl), by decide +kernel, by decide +kernel, by decide +kernel⟩
theorem fC_214 : FC aM_214 := ⟨(gW (gT6 (i := 71) rfl) rfl), (gW (gT1 (i := 10) rfl) rfl)⟩
theorem mC_214 : mCl 214 = 10 := by decide +kernel
theorem fV_214 : FV 214 aM_214 := ⟨(gW (gT6 (i := 70) rfl) rfl), (gW (gT0 (i := 58) rfl) rfl), rfl, Or.inl ⟨aCl_9, by rw [mC_214]; rfl, rfl, by rw [mC_214]; decide⟩⟩
set_option maxRecDepth 100000 in
theorem aA_215 : aMt[215]? = some aM_215 := rfl
theorem fM_215 : FM aM_215 := ⟨rfl, by decide, (plainFor_of_name rfl), by decide +kernel, by decide +kernel, by decide +kernel⟩
theorem fC_215 : FC aM_215 := ⟨(gW (gT6 (i := 75) rfl) rfl), (gW (gT1 (i := 10) rfl) rfl)⟩
theorem mC_215 : mCl 215 = 10 := by decide +kernel
theorem fV_215 : FV 215 aM_215 := ⟨(gW (gT6 (i := 74) rfl) rfl), (gW (gT0 (i := 59) rfl) rfl), rfl, Or.inl ⟨aCl_9, by rw [mC_215]; rfl, rfl, by rw [mC_215]; decide⟩⟩
set_option maxRecDepth 100000 in
theorem aA_216 : aMt[216]? = some aM_216 := rfl
theorem fM_216 : FM aM_216 := ⟨rfl, by decide, (plainFor_of_name rfl), by decide +kernel, by decide +kernel, by decide +kernel⟩
theorem fC_216 : FC aM_216 := ⟨(gW (gT6 (i := 79) rfl) rfl), (gW (gT1 (i := 10) rfl) rfl)⟩
theorem mC_216 : mCl 216 = 10 := by decide +kernel
theorem fV_216 : FV 216 aM_216 := ⟨(gW (gT6 (i := 77) rfl) rfl), (gW (gT6 (i := 78) rfl) rfl), rfl, Or.inl ⟨aCl_9, by rw [mC_216]; rfl, rfl, by rw [mC_216]; decide⟩⟩
set_option maxRecDepth 100000 in
theorem aA_217 : aMt[217]? = some aM_217 := rfl
theorem fM_217 : FM aM_217 := ⟨rfl, by decide, (plainFor_of_name rfl), by decide +kernel, by decide +kernel, by decide +kernel⟩
theorem fC_217 : FC aM_217 := ⟨(gW (gT6 (i := 83) rfl) rfl), (gW (gT1 (i := 10) rfl) rfl)⟩
theorem mC_217 : mCl 217 = 10 := by decide +kernel
theorem fV_217 : FV 217 aM_217 := ⟨(gW (gT6 (i := 82) rfl) rfl), (gW (gT0 (i := 60) rfl) rfl), rfl, Or.inl ⟨aCl_9, by rw [mC_217]; rfl, rfl, by rw [mC_217]; decide⟩⟩
set_option maxRecDepth 100000 in
theorem aA_218 : aMt[218]? = some aM_218 := rfl
theorem fM_218 : FM aM_218 := ⟨rfl, by decide, (plainFor_of_name rfl), by decide +kernel, by decide +kernel, by decide +kernel⟩
theorem fC_218 : FC aM_218 := ⟨(gW (gT6 (i := 87) rfl) rfl), (gW (gT1 (i := 10) rfl) rfl)⟩
theorem mC_218 : mCl 218 = 10 := by decide +kernel
theorem fV_218 : FV 218 aM_218 := ⟨(gW (gT6 (i := 86) rfl) rfl), (gW (gT0 (i := 61) rfl) rfl), rfl, Or.inl ⟨aCl_9, by rw [mC_218]; rfl, rfl, by rw [mC_218]; decide⟩⟩
set_option maxRecDepth 100000 in
theorem aA_219 : aMt[219]? = some aM_219 := rfl
theorem fM_219 : FM aM_219 := ⟨rfl, by decide, (plainFor_of_name rfl), by decide +kernel, by decide +kernel, by decide +kernel⟩
theorem fC_219 : FC aM_219 := ⟨(gW (gT6 (i := 91) rfl) rfl), (gW (gT1 (i := 10) rfl) rfl)⟩
theorem mC_219 : mCl 219 = 10 := by decide +kernel
theorem fV_219 : FV 219 aM_219 := ⟨(gW (gT6 (i := 90) rfl) rfl), (gW (gT0 (i := 62) rfl) rfl), rfl, Or.inl ⟨aCl_9, by rw [mC_219]; rfl, rfl, by rw [mC_219]; decide⟩⟩
set_option maxRecDepth 100000 in
theorem aA_220 : aMt[220]? = some aM_220 := rfl
theorem fM_220 : FM aM_220 := ⟨rfl, by decide, (plainFor_of_name rfl), by decide +kernel, by decide +kernel, by decide +kernel⟩
theorem fC_220 : FC aM_220 := ⟨(gW (gT6 (i := 95) rfl) rfl), (gW (gT1 (i := 10) rfl) rfl)⟩
theorem mC_220 : mCl 220 = 10 := by decide +kernel
theorem fV_220 : FV 220 aM_220 := ⟨(gW (gT6 (i := 94) rfl) rfl), (gW (gT0 (i := 63) rfl) rfl), rfl, Or.inl ⟨aCl_9, by rw [mC_220]; rfl, rfl, by rw [mC_220]; decide⟩⟩
set_option maxRecDepth 100000 in
theorem aA_221 : aMt[221]? = some aM_221 := rfl
theorem fM_221 : FM aM_221 := ⟨rfl, by decide, (plainFor_of_name rfl), by decide +kernel, by decide +kernel, by decide +kernel⟩
theorem fC_221 : FC aM_221 := ⟨(gW (gT6 (i := 99) rfl) rfl), (gW (gT1 (i := 10) rfl) rfl)⟩
theorem mC_221 : mCl 221 = 10 := by decide +kernel
theorem fV_221 : FV 221 aM_221 := ⟨(gW (gT6 (i := 97) rfl) rfl), (gW (gT6 (i := 98) rfl) rfl), rfl, Or.inl ⟨aCl_9, by rw [mC_221]; rfl, rfl, by rw [mC_221]; decide⟩⟩
set_option maxRecDepth 100000 in
theorem aA_222 : aMt[222]? = some aM_222 := rfl
theorem fM_222 : FM aM_222 := ⟨rfl, by decide, (plainFor_of_name rfl), by decide +kernel, by decide +kernel, by decide +kernel⟩
theorem fC_222 : FC aM_222 := ⟨(gW (gT6 (i := 104) rfl) rfl), (gW (gT1 (i := 10) rfl) rfl)⟩
theorem mC_222 : mCl 222 = 10 := by decide +kernel
theorem fV_222 : FV 222 aM_222 := ⟨(gW (gT6 (i := 102) rfl) rfl), (gW (gT6 (i := 103) rfl) rfl), rfl, Or.inl ⟨aCl_9, by rw [mC_222]; rfl, rfl, by rw [mC_222]; decide⟩⟩
set_option maxRecDepth 100000 in
theorem aA_223 : aMt[223]? = some aM_223 := rfl
theorem fM_223 : FM aM_223 := ⟨rfl, by decide, (plainFor_of_name rfl), by decide +kernel, by decide +kernel, by decide +kernel⟩
theorem fC_223 : FC aM_223 := ⟨(gW (gT6 (i := 108) rfl) rfl), (gW (gT1 (i := 10) rfl) rfl)⟩
theorem mC_223 : mCl 223 = 10 := by decide +kernel
theorem fV_223 : FV 223 aM_223 := ⟨(gW (gT6 (i := 107) rfl) rfl), (gW (gT0 (i := 64) rfl) rfl), rfl, Or.inl ⟨aCl_9, by rw [mC_223]; rfl, rfl, by rw [mC_223]; decide⟩⟩
set_option maxRecDepth 100000 in
theorem aA_224 : aMt[224]? = some aM_224 := rfl
theorem fM_224 : FM aM_224 := ⟨rfl, by decide, (plainFor_of_name rfl), by decide +kernel, by decide +kernel, by decide +kernel⟩
theorem fC_224 : FC aM_224 := ⟨(gW (gT6 (i := 111) rfl) rfl), (gW (gT1 (i := 10) rfl) rfl)⟩
theorem fS_224 : FS aM_224 := ⟨(gW (gT6 (i := 110) rfl) rfl), rfl⟩
set_option maxRecDepth 100000 in
theorem aA_225 : aMt[225]? = some aM_225 := rfl
theorem fM_225 : FM aM_225 := ⟨rfl, by decide, (plainFor_of_name rfl), by decide +kernel, by decide +kernel, by decide +kernel⟩
theorem fC_225 : FC aM_225 := ⟨(gW (gT6 (i := 117) rfl) rfl), (gW (gT1 (i := 10) rfl) rfl)⟩
theorem mC_225 : mCl 225 = 10 := by decide +kernel
theorem fV_225 : FV 225 aM_225 := ⟨(gW (gT6 (i := 115) rfl) rfl), (gW (gT6 (i := 116) rfl) rfl), rfl, Or.inl ⟨aCl_9, by rw [mC_225]; rfl, rfl, by rw [mC_225]; decide⟩⟩
set_option maxRecDepth 100000 in
theorem aA_226 : aMt[226]? = some aM_226 := rfl
theorem fM_226 : FM aM_226 := ⟨rfl, by decide, (plainFor_of_name rfl), by decide +kernel, by decide +kernel, by decide +kernel⟩
theorem fC_226 : FC aM_226 := ⟨(gW (gT6 (i := 121) rfl) rfl), (gW (gT1 (i := 10) rfl) rfl)⟩
theorem mC_226 : mCl 226 = 10 := by decide +kernel
theorem fV_226 : FV 226 aM_226 := ⟨(gW (gT6 (i := 119) rfl) rfl), (gW (gT6 (i := 120) rfl) rfl), rfl, Or.inl ⟨aCl_9, by rw [mC_226]; rfl, rfl, by rw [mC_226]; decide⟩⟩
set_option maxRecDepth 100000 in
theorem aA_227 : aMt[227]? = some aM_227 := rfl
theorem fM_227 : FM aM_227 := ⟨rfl, by decide, (plainFor_of_name rfl), by decide +kernel, by decide +kernel, by decide +kernel⟩
theorem fC_227 : FC aM_227 := ⟨(gW (gT6 (i := 125) rfl) rfl), (gW (gT1 (i := 10) rfl) rfl)⟩
theorem mC_227 : mCl 227 = 10 := by decide +kernel
theorem fV_227 : FV 227 aM_227 := ⟨(gW (gT6 (i := 124) rfl) rfl), (gW (gT0 (i := 65) rfl) rfl), rfl, Or.inl ⟨aCl_9, by rw [mC_227]; rfl, rfl, by rw [mC_227]; decide⟩⟩
set_option maxRecDepth 100000 in
theorem aA_228 : aMt[228]? = some aM_228 := rfl
theorem fM_228 : FM aM_228 := ⟨rfl, by decide, (plainFor_of_name rfl), by decide +kernel, by decide +kernel, by decide +kernel⟩
theorem fC_228 : FC aM_228 := ⟨(gW (gT6 (i := 129) rfl) rfl), (gW (gT1 (i := 10) rfl) rfl)⟩
theorem mC_228 : mCl 228 = 10 := by decide +kernel
theorem fV_228 : FV 228 aM_228 := ⟨(gW (gT6 (i := 127) rfl) rfl), (gW (gT6 (i := 128) rfl) rfl), rfl, Or.inl ⟨aCl_9, by rw [mC_228]; rfl, rfl, by rw [mC_228]; decide⟩⟩
set_option maxRecDepth 100000 in
theorem aA_229 : aMt[229]? = some aM_229 := rfl
theorem fM_229 : FM aM_229 := ⟨rfl, by decide, (plainFor_of_name rfl), by decide +kernel, by decide +kernel, by decide +kernel⟩
theorem fC_229 : FC aM_229 := ⟨(gW (gT6 (i := 133) rfl) rfl), (gW (gT1 (i := 10) rfl) rfl)⟩
theorem mC_229 : mCl 229 = 10 := by decide +kernel
theorem fV_229 : FV 229 aM_229 := ⟨(gW (gT6 (i := 132) rfl) rfl), (gW (gT0 (i := 66) rfl) rfl), rfl, Or.inl ⟨aCl_9, by rw [mC_229]; rfl, rfl, by rw [mC_229]; decide⟩⟩
set_option maxRecDepth 100000 in
theorem aA_230 : aMt[230]? = some aM_230 := rfl
theorem fM_230 : FM aM_230 := ⟨rfl, by decide, (plainFor_of_name rfl), by decide +kernel, by decide +kernel, by decide +kernel⟩
theorem fC_230 : FC aM_230 := ⟨(gW (gT6 (i := 136) rfl) rfl), (gW (gT1 (i := 10) rfl) rfl)⟩
theorem fS_230 : FS aM_230 := ⟨(gW (gT6 (i := 135) rfl) rfl), rfl⟩
set_option maxRecDepth 100000 in
theorem aA_231 : aMt[231]? = some aM_231 := rfl
theorem fM_231 : FM aM_231 := ⟨rfl, by decide, (plainFor_of_name rfl), by decide +kernel, by decide +kernel, by decide +kernel⟩
theorem fC_231 : FC aM_231 := ⟨(gW (gT6 (i := 140) rfl) rfl), (gW (gT1 (i := 10) rfl) rfl)⟩
theorem mC_231 : mCl 231 = 10 := by decide +kernel
theorem fV_231 : FV 231 aM_231 := ⟨(gW (gT6 (i := 139) rfl) rfl), (gW (gT0 (i := 67) rfl) rfl), rfl, Or.inl ⟨aCl_9, by rw [mC_231]; rfl, rfl, by rw [mC_231]; decide⟩⟩
set_option maxRecDepth 100000 in
theorem aA_232 : aMt[232]? = some aM_232 := rfl
theorem fM_232 : FM aM_232 := ⟨rfl, by decide, (plainFor_of_name rfl), by decide +kernel, by decide +kernel, by decide +kernel⟩
theorem fC_232 : FC aM_232 := ⟨(gW (gT6 (i := 144) rfl) rfl), (gW (gT1 (i := 10) rfl) rfl)⟩
theorem mC_232 : mCl 232 = 10 := by decide +kernel
theorem fV_232 : FV 232 aM_232 := ⟨(gW (gT6 (i := 142) rfl) rfl), (gW (gT6 (i := 143) rfl) rfl), rfl, Or.inl ⟨aCl_9, by rw [mC_232]; rfl, rfl, by rw [mC_232]; decide⟩⟩
set_option maxRecDepth 100000 in
theorem aA_233 : aMt[233]? = some aM_233 := rfl
theorem fM_233 : FM aM_233 := ⟨rfl, by decide, (plainFor_of_name rfl), by decide +kernel, by decide +kernel, by decide +kernel⟩
theorem fC_233 : FC aM_233 := ⟨(gW (gT6 (i := 148) rfl) rfl), (gW (gT1 (i := 10) rfl) rfl)⟩
theorem mC_233 : mCl 233 = 10 := by decide +kernel
theorem fV_233 : FV 233 aM_233 := ⟨(gW (gT6 (i := 146) rfl) rfl), (gW (gT6 (i := 147) rfl) rfl), rfl, Or.inl ⟨aCl_9, by rw [mC_233]; rfl, rfl, by rw [mC_233]; decide⟩⟩
set_option maxRecDepth 100000 in
theorem aA_234 : aMt[234]? = some aM_234 := rfl
theorem fM_234 : FM aM_234 := ⟨rfl, by decide, (plainFor_of_name rfl), by decide +kernel, by decide +kernel, by decide +kernel⟩
theorem fC_234 : FC aM_234 := ⟨(gW (gT6 (i := 152) rfl) rfl), (gW (gT1 (i := 10) rfl) rfl)⟩
theorem mC_234 : mCl 234 = 10 := by decide +kernel
theorem fV_234 : FV 234 aM_234 := ⟨(gW (gT6 (i := 150) rfl) rfl), (gW (gT6 (i := 151) rfl) rfl), rfl, Or.inl ⟨aCl_9, by rw [mC_234]; rfl, rfl, by rw [mC_234]; decide⟩⟩
set_option maxRecDepth 100000 in
theorem aA_235 : aMt[235]? = some aM_235 := rfl
theorem fM_235 : FM aM_235 := ⟨rfl, by decide, (plainFor_of_name rfl), by decide +kernel, by decide +kernel, by decide +kernel⟩
theorem fC_235 : FC aM_235 := ⟨(gW (gT6 (i := 156) rfl) rfl), (gW (gT1 (i := 10) rfl) rfl)⟩
theorem mC_235 : mCl 235 = 10 := by decide +kernel
theorem fV_235 : FV 235 aM_235 := ⟨(gW (gT6 (i := 154) rfl) rfl), (gW (gT6 (i := 155) rfl) rfl), rfl, Or.inl ⟨aCl_9, by rw [mC_235]; rfl, rfl, by rw [mC_235]; decide⟩⟩
set_option maxRecDepth 100000 in
theorem aA_236 : aMt[236]? = some aM_236 := rfl
theorem fM_236 : FM aM_236 := ⟨rfl, by decide, (plainFor_of_name rfl), by decide +kernel, by decide +kernel, by decide +kernel⟩
theorem fC_236 : FC aM_236 := ⟨(gW (gT6 (i := 160) rfl) rfl), (gW (gT1 (i := 10) rfl) rfl)⟩
theorem mC_236 : mCl 236 = 10 := by decide +kernel
theorem fV_236 : FV 236 aM_236 := ⟨(gW (gT6 (i := 158) rfl) rfl), (gW (gT6 (i := 159) rfl) rfl), rfl, Or.inl ⟨aCl_9, by rw [mC_236]; rfl, rfl, by rw [mC_236]; decide⟩⟩
set_option maxRecDepth 100000 in
theorem aA_237 : aMt[237]? = some aM_237 := rfl
theorem fM_237 : FM aM_237 := ⟨rfl, by decide, (plainFor_of_name rfl), by decide +kernel, by decide +kernel, by decide +kernel⟩
theorem fC_237 : FC aM_237 := ⟨(gW (gT6 (i := 164) rfl) rfl), (gW (gT1 (i := 10) rfl) rfl)⟩
theorem mC_237 : mCl 237 = 10 := by decide +kernel
theorem fV_237 : FV 237 aM_237 := ⟨(gW (gT6 (i := 162) rfl) rfl), (gW (gT6 (i := 163) rfl) rfl), rfl, Or.inl ⟨aCl_9, by rw [mC_237]; rfl, rfl, by rw [mC_237]; decide⟩⟩
set_option maxRecDepth 100000 in
theorem aA_238 : aMt[238]? = some aM_238 := rfl
theorem fM_238 : FM aM_238 := ⟨rfl, by decide, (plainFor_of_name rfl), by decide +kernel, by decide +kernel, by decide +kernel⟩
theorem fC_238 : FC aM_238 := ⟨(gW (gT6 (i := 170) rfl) rfl), (gW (gT1 (i := 10) rfl) rfl)⟩
theorem mC_238 : mCl 238 = 10 := by decide +kernel
theorem fV_238 : FV 238 aM_238 := ⟨(gW (gT6 (i := 168) rfl) rfl), (gW (gT6 (i := 169) rfl) rfl), rfl, Or.inl ⟨aCl_9, by rw [mC_238]; rfl, rfl, by rw [mC_238]; decide⟩⟩
set_option maxRecDepth 100000 in
theorem aA_239 : aMt[239]? = some aM_239 := rfl
theorem fM_239 : FM aM_239 := ⟨rfl, by decide, (plainFor_of_name rfl), by decide +kernel, by decide +kernel, by decide +kernel⟩
theorem fC_239 : FC aM_239 := ⟨(gW (gT6 (i := 174) rfl) rfl), (gW (gT1 (i := 10) rfl) rfl)⟩
theorem mC_239 : mCl 239 = 10 := by decide +kernel
theorem fV_239 : FV 239 aM_239 := ⟨(gW (gT6 (i := 173) rfl) rfl), (gW (gT0 (i := 68) rfl) rfl), rfl, Or.inl ⟨aCl_9, by rw [mC_239]; rfl, rfl, by rw [mC_239]; decide⟩⟩
set_option maxRecDepth 100000 in
theorem aA_240 : aMt[240]? = some aM_240 := rfl
theorem fM_240 : FM aM_240 := ⟨rfl, by decide, (plainFor_of_name rfl), by decide +kernel, by decide +kernel, by decide +kernel⟩
theorem fC_240 : FC aM_240 := ⟨(gW (gT6 (i := 178) rfl) rfl), (gW (gT1 (i := 10) rfl) rfl)⟩
theorem mC_240 : mCl 240 = 10 := by decide +kernel
theorem fV_240 : FV 240 aM_240 := ⟨(gW (gT6 (i := 176) rfl) rfl), (gW (gT6 (i := 177) rfl) rfl), rfl, Or.inl ⟨aCl_9, by rw [mC_240]; rfl, rfl, by rw [mC_240]; decide⟩⟩
set_option maxRecDepth 100000 in
theorem aA_241 : aMt[241]? = some aM_241 := rfl
theorem fM_241 : FM aM_241 := ⟨rfl, by decide, (plainFor_of_name rfl), by decide +kernel, by decide +kernel, by decide +kernel⟩
theorem fC_241 : FC aM_241 := ⟨(gW (gT6 (i := 182) rfl) rfl), (gW (gT1 (i := 10) rfl) rfl)⟩
theorem mC_241 : mCl 241 = 10 := by decide +kernel
theorem fV_241 : FV 241 aM_241 := ⟨(gW (gT6 (i := 180) rfl) rfl), (gW (gT6 (i := 181) rfl) rfl), rfl, Or.inl ⟨aCl_9, by rw [mC_241]; rfl, rfl, by rw [mC_241]; decide⟩⟩
set_option maxRecDepth 100000 in
theorem aA_242 : aMt[242]? = some aM_242 := rfl
theorem fM_242 : FM aM_242 := ⟨rfl, by decide, (plainFor_of_name rfl), by decide +kernel, by decide +kernel, by decide +kernel⟩
theorem fC_242 : FC aM_242 := ⟨(gW (gT6 (i := 186) rfl) rfl), (gW (gT1 (i := 10) rfl) rfl)⟩
theorem mC_242 : mCl 242 = 10 := by decide +kernel
theorem fV_242 : FV 242 aM_242 := ⟨(gW (gT6 (i := 185) rfl) rfl), (gW (gT0 (i := 69) rfl) rfl), rfl, Or.inl ⟨aCl_9, by rw [mC_242]; rfl, rfl, by rw [mC_242]; decide⟩⟩
set_option maxRecDepth 100000 in
theorem aA_243 : aMt[243]? = some aM_243 := rfl
theorem fM_243 : FM aM_243 := ⟨rfl, by decide, (plainFor_of_name rfl), by decide +kernel, by decide +kernel, by decide +kernel⟩
theorem fC_243 : FC aM_243 := ⟨(gW (gT6 (i := 189) rfl) rfl), (gW (gT1 (i := 10) rfl) rfl)⟩
theorem fS_243 : FS aM_243 := ⟨(gW (gT6 (i := 188) rfl) rfl), rfl⟩
set_option maxRecDepth 100000 in
theorem aA_244 : aMt[244]? = some aM_244 := rfl
theorem fM_244 : FM aM_244 := ⟨rfl, by decide, (plainFor_of_name rfl), by decide +kernel, by decide +kernel, by decide +kernel⟩
theorem fC_244 : FC aM_244 := ⟨(gW (gT6 (i := 193) rfl) rfl), (gW (gT1 (i := 10) rfl) rfl)⟩
theorem mC_244 : mCl 244 = 10 := by decide +kernel
theorem fV_244 : FV 244 aM_244 := ⟨(gW (gT6 (i := 191) rfl) rfl), (gW (gT6 (i := 192) rfl) rfl), rfl, Or.inl ⟨aCl_9, by rw [mC_244]; rfl, rfl, by rw [mC_244]; decide⟩⟩
set_option maxRecDepth 100000 in
theorem aA_245 : aMt[245]? = some aM_245 := rfl
theorem fM_245 : FM aM_245 := ⟨rfl, by decide, (plainFor_of_name rfl), by decide +kernel, by decide +kernel, by decide +kernel⟩
theorem fC_245 : FC aM_245 := ⟨(gW (gT6 (i := 197) rfl) rfl), (gW (gT1 (i := 10) rfl) rfl)⟩
theorem mC_245 : mCl 245 = 10 := by decide +kernel
theorem fV_245 : FV 245 aM_245 := ⟨(gW (gT6 (i := 195) rfl) rfl), (gW (gT6 (i := 196) rfl) rfl), rfl, Or.inl ⟨aCl_9, by rw [mC_245]; rfl, rfl, by rw [mC_245]; decide⟩⟩
set_option maxRecDepth 100000 in
theorem aA_246 : aMt[246]? = some aM_246 := rfl
theorem fM_246 : FM aM_246 := ⟨rfl, by decide, (plainFor_of_name rfl), by decide +kernel, by decide +kernel, by decide +kernel⟩
theorem fC_246 : FC aM_246 := ⟨(gW (gT6 (i := 201) rfl) rfl), (gW (gT1 (i := 10) rfl) rfl)⟩
theorem mC_246 : mCl 246 = 10 := by decide +kernel
theorem fV_246 : FV 246 aM_246 := ⟨(gW (gT6 (i := 199) rfl) rfl), (gW (gT6 (i := 200) rfl) rfl), rfl, Or.inl ⟨aCl_9, by rw [mC_246]; rfl, rfl, by rw [mC_246]; decide⟩⟩
set_option maxRecDepth 100000 in
theorem aA_247 : aMt[247]? = some aM_247 := rfl
theorem fM_247 : FM aM_247 := ⟨rfl, by decide, (plainFor_of_name rfl), by decide +kernel, by decide +kernel, by decide +kernel⟩
theorem fC_247 : FC aM_247 := ⟨(gW (gT6 (i := 205) rfl) rfl), (gW (gT1 (i := 10) rfl) rfl)⟩
theorem mC_247 : mCl 247 = 10 := by decide +kernel
theorem fV_247 : FV 247 aM_247 := ⟨(gW (gT6 (i := 203) rfl) rfl), (gW (gT6 (i := 204) rfl) rfl), rfl, Or.inl ⟨aCl_9, by rw [mC_247]; rfl, rfl, by rw [mC_247]; decide⟩⟩
set_option maxRecDepth 100000 in
theorem aA_248 : aMt[248]? = some aM_248 := rfl
theorem fM_248 : FM aM_248 := ⟨rfl, by decide, (plainFor_of_name rfl), by decide +kernel, by decide +kernel, by decide +kernel⟩
theorem fC_248 : FC aM_248 := ⟨(gW (gT6 (i := 209) rfl) rfl), (gW (gT1 (i := 10) rfl) rfl)⟩
theorem mC_248 : mCl 248 = 10 := by decide +kernel
theorem fV_248 : FV 248 aM_248 := ⟨(gW (gT6 (i := 207) rfl) rfl), (gW (gT6 (i := 208) rfl) rfl), rfl, Or.inl ⟨aCl_9, by rw [mC_248]; rfl, rfl, by rw [mC_248]; decide⟩⟩
set_option maxRecDepth 100000 in
theorem aA_249 : aMt[249]? = some aM_249 := rfl
theorem fM_249 : FM aM_249 := ⟨rfl, by decide, (plainFor_of_name rfl), by decide +kernel, by decide +kernel, by decide +kernel⟩
theorem fC_249 : FC aM_249 := ⟨(gW (gT6 (i := 213) rfl) rfl), (gW (gT1 (i := 10) rfl) rfl)⟩
theorem mC_249 : mCl 249 = 10 := by decide +kernel
theorem fV_249 : FV 249 aM_249 := ⟨(gW (gT6 (i := 211) rfl) rfl), (gW (gT6 (i := 212) rfl) rfl), rfl, Or.inl ⟨aCl_9, by rw [mC_249]; rfl, rfl, by rw [mC_249]; decide⟩⟩
set_option maxRecDepth 100000 in
theorem aA_250 : aMt[250]? = some aM_250 := rfl
theorem fM_250 : FM aM_250 := ⟨rfl, by decide, (plainFor_of_name rfl), by decide +kernel, by decide +kernel, by decide +kernel⟩
theorem fC_250 : FC aM_250 := ⟨(gW (gT6 (i := 218) rfl) rfl), (gW (gT1 (i := 10) rfl) rfl)⟩
theorem mC_250 : mCl 250 = 10 := by decide +kernel
theorem fV_250 : FV 250 aM_250 := ⟨(gW (gT6 (i := 216) rfl) rfl), (gW (gT6 (i := 217) rfl) rfl), rfl, Or.inl ⟨aCl_9, by rw [mC_250]; rfl, rfl, by rw [mC_250]; decide⟩⟩
set_option maxRecDepth 100000 in
theorem aA_251 : aMt[251]? = some aM_251 := rfl
theorem fM_251 : FM aM_251 := ⟨rfl, by decide, (plainFor_of_name rfl), by decide +kernel, by decide +kernel, by decide +kernel⟩
theorem fC_251 : FC aM_251 := ⟨(gW (gT6 (i := 222) rfl) rfl), (gW (gT1 (i := 10) rfl) rfl)⟩
theorem mC_251 : mCl 251 = 10 := by decide +kernel
theorem fV_251 : FV 251 aM_251 := ⟨(gW (gT6 (i := 221) rfl) rfl), (gW (gT0 (i := 70) rfl) rfl), rfl, Or.inl ⟨aCl_9, by rw [mC_251]; rfl, rfl, by rw [mC_251]; decide⟩⟩
set_option maxRecDepth 100000 in
theorem aA_252 : aMt[252]? = some aM_252 := rfl
theorem fM_252 : FM aM_252 := ⟨rfl, by decide, (plainFor_of_name rfl), by decide +kernel, by decide +kernel, by decide +kernel⟩
theorem fC_252 : FC aM_252 := ⟨(gW (gT6 (i := 226) rfl) rfl), (gW (gT1 (i := 10) rfl) rfl)⟩
theorem mC_252 : mCl 252 = 10 := by decide +kernel
theorem fV_252 : FV 252 aM_252 := ⟨(gW (gT6 (i := 224) rfl) rfl), (gW (gT6 (i := 225) rfl) rfl), rfl, Or.inl ⟨aCl_9, by rw [mC_252]; rfl, rfl, by rw [mC_252]; decide⟩⟩
set_option maxRecDepth 100000 in
theorem aA_253 : aMt[253]? = some aM_253 := rfl
theorem fM_253 : FM aM_253 := ⟨rfl, by decide, (plainFor_of_name rfl), by decide +kernel, by decide +kernel, by decide +kernel⟩
theorem fC_253 : FC aM_253 := ⟨(gW (gT6 (i := 230) rfl) rfl), (gW (gT1 (i := 10) rfl) rfl)⟩
theorem mC_253 : mCl 253 = 10 := by decide +kernel
theorem fV_253 : FV 253 aM_253 := ⟨(gW (gT6 (i := 228) rfl) rfl), (gW (gT6 (i := 229) rfl) rfl), rfl, Or.inl ⟨aCl_9, by rw [mC_253]; rfl, rfl, by rw [mC_253]; decide⟩⟩
set_option maxRecDepth 100000 in
theorem aA_254 : aMt[254]? = some aM_254 := rfl
theorem fM_254 : FM aM_254 := ⟨rfl, by decide, (plainFor_of_name rfl), by decide +kernel, by decide +kernel, by decide +kernel⟩
theorem fC_254 : FC aM_254 := ⟨(gW (gT6 (i := 234) rfl) rfl), (gW (gT1 (i := 10) rfl) rfl)⟩
theorem mC_254 : mCl 254 = 10 := by decide +kernel
theorem fV_254 : FV 254 aM_254 := ⟨(gW (gT6 (i := 232) rfl) rfl), (gW (gT6 (i := 233) rfl) rfl), rfl, Or.inl ⟨aCl_9, by rw [mC_254]; rfl, rfl, by rw [mC_254]; decide⟩⟩
set_option maxRecDepth 100000 in
theorem aA_255 : aMt[255]? = some aM_255 := rfl
theorem fM_255 : FM aM_255 := ⟨rfl, by decide, (plainFor_of_name rfl), by decide +kernel, by decide +kernel, by decide +kernel⟩
theorem fC_255 : FC aM_255 := ⟨(gW (gT6 (i := 238) rfl) rfl), (gW (gT1 (i := 10) rfl) rfl)⟩
theorem mC_255 : mCl 255 = 10 := by decide +kernel
theorem fV_255 : FV 255 aM_255 := ⟨(gW (gT6 (i := 236) rfl) rfl), (gW (gT6 (i := 237) rfl) rfl), rfl, Or.inl ⟨aCl_9, by rw [mC_255]; rfl, rfl, by rw [mC_255]; decide⟩⟩
set_option maxRecDepth 100000 in
theorem aA_256 : aMt[256]? = some aM_256 := rfl
theorem fM_256 : FM aM_256 := ⟨rfl, by decide, (plainFor_of_name rfl), by decide +kernel, by decide +kernel, by decide +kernel⟩
theorem fC_256 : FC aM_256 := ⟨(gW (gT7 (i := 1) rfl) rfl), (gW (gT1 (i := 10) rfl) rfl)⟩
theorem fS_256 : FS aM_256 := ⟨(gW (gT7 (i := 0) rfl) rfl), rfl⟩
set_option maxRecDepth 100000 in
theorem aA_257 : aMt[257]? = some aM_257 := rfl
theorem fM_257 : FM aM_257 := ⟨rfl, by decide, (plainFor_of_name rfl), by decide +kernel, by decide +kernel, by decide +kernel⟩
theorem fC_257 : FC aM_257 := ⟨(gW (gT7 (i := 4) rfl) rfl), (gW (gT1 (i := 10) rfl) rfl)⟩
theorem fS_257 : FS aM_257 := ⟨(gW (gT7 (i := 3) rfl) rfl), rfl⟩
set_option maxRecDepth 100000 in
theorem aA_258 : aMt[258]? = some aM_258 := rfl
theorem fM_258 : FM aM_258 := ⟨rfl, by decide, (plainFor_of_name rfl), by decide +kernel, by decide +kernel, by decide +kernel⟩
theorem fC_258 : FC aM_258 := ⟨(gW (gT7 (i := 8) rfl) rfl), (gW (gT1 (i := 10) rfl) rfl)⟩
theorem mC_258 : mCl 258 = 10 := by decide +kernel
theorem fV_258 : FV 258 aM_258 := ⟨(gW (gT7 (i := 6) rfl) rfl), (gW (gT7 (i := 7) rfl) rfl), rfl, Or.inl ⟨aCl_9, by rw [mC_258]; rfl, rfl, by rw [mC_258]; decide⟩⟩
set_option maxRecDepth 100000 in
theorem aA_259 : aMt[259]? = some aM_259 := rfl
theorem fM_259 : FM aM_259 := ⟨rfl, by decide, (plainFor_of_name rfl), by decide +kernel, by decide +kernel, by decide +kernel⟩
theorem fC_259 : FC aM_259 := ⟨(gW (gT7 (i := 12) rfl) rfl), (gW (gT1 (i := 10) rfl) rfl)⟩
theorem mC_259 : mCl 259 = 10 := by decide +kernel
theorem fV_259 : FV 259 aM_259 := ⟨(gW (gT7 (i := 10) rfl) rfl), (gW (gT7 (i := 11) rfl) rfl), rfl, Or.inl ⟨aCl_9, by rw [mC_259]; rfl, rfl, by rw [mC_259]; decide⟩⟩
set_option maxRecDepth 100000 in
theorem aA_260 : aMt[260]? = some aM_260 := rfl
theorem fM_260 : FM aM_260 := ⟨rfl, by decide, (plainFor_of_name rfl), by decide +kernel, by decide +kernel, by decide +kernel⟩
theorem fC_260 : FC aM_260 := ⟨(gW (gT7 (i := 16) rfl) rfl), (gW (gT1 (i := 10) rfl) rfl)⟩
theorem mC_260 : mCl 260 = 10 := by decide +kernel
theorem fV_260 : FV 260 aM_260 := ⟨(gW (gT7 (i := 14) rfl) rfl), (gW (gT7 (i := 15) rfl) rfl), rfl, Or.inl ⟨aCl_9, by rw [mC_260]; rfl, rfl, by rw [mC_260]; decide⟩⟩
set_option maxRecDepth 100000 in
theorem aA_261 : aMt[261]? = some aM_261 := rfl
theorem fM_261 : FM aM_261 := ⟨rfl, by decide, (plainFor_of_name rfl), by decide +kernel, by decide +kernel, by decide +kernel⟩
theorem fC_261 : FC aM_261 := ⟨(gW (gT7 (i := 21) rfl) rfl), (gW (gT1 (i := 10) rfl) rfl)⟩
theorem mC_261 : mCl 261 = 10 := by decide +kernel
theorem fV_261 : FV 261 aM_261 := ⟨(gW (gT7 (i := 19) rfl) rfl), (gW (gT7 (i := 20) rfl) rfl), rfl, Or.inl ⟨aCl_9, by rw [mC_261]; rfl, rfl, by rw [mC_261]; decide⟩⟩
set_option maxRecDepth 100000 in
theorem aA_262 : aMt[262]? = some aM_262 := rfl
theorem fM_262 : FM aM_262 := ⟨rfl, by decide, (plainFor_of_name rfl), by decide +kernel, by decide +kernel, by decide +kernel⟩
theorem fC_262 : FC aM_262 := ⟨(gW (gT7 (i := 25) rfl) rfl), (gW (gT1 (i := 10) rfl) rfl)⟩
theorem mC_262 : mCl 262 = 10 := by decide +kernel
theorem fV_262 : FV 262 aM_262 := ⟨(gW (gT7 (i := 23) rfl) rfl), (gW (gT7 (i := 24) rfl) rfl), rfl, Or.inl ⟨aCl_9, by rw [mC_262]; rfl, rfl, by rw [mC_262]; decide⟩⟩
set_option maxRecDepth 100000 in
theorem aA_263 : aMt[263]? = some aM_263 := rfl
theorem fM_263 : FM aM_263 := ⟨rfl, by decide, (plainFor_of_name rfl), by decide +kernel, by decide +kernel, by decide +kernel⟩
theorem fC_263 : FC aM_263 := ⟨(gW (gT7 (i := 29) rfl) rfl), (gW (gT1 (i := 10) rfl) rfl)⟩
theorem mC_263 : mCl 263 = 10 := by decide +kernel
theorem fV_263 : FV 263 aM_263 := ⟨(gW (gT7 (i := 27) rfl) rfl), (gW (gT7 (i := 28) rfl) rfl), rfl, Or.inl ⟨aCl_9, by rw [mC_263]; rfl, rfl, by rw [mC_263]; decide⟩⟩
set_option maxRecDepth 100000 in
theorem aA_264 : aMt[264]? = some aM_264 := rfl
theorem fM_264 : FM aM_264 := ⟨rfl, by decide, (plainFor_of_name rfl), by decide +kernel, by decide +kernel, by decide +kernel⟩
theorem fC_264 : FC aM_264 := ⟨(gW (gT7 (i := 33) rfl) rfl), (gW (gT1 (i := 10) rfl) rfl)⟩
theorem mC_264 : mCl 264 = 10 := by decide +kernel
theorem fV_264 : FV 264 aM_264 := ⟨(gW (gT7 (i := 31) rfl) rfl), (gW (gT7 (i := 32) rfl) rfl), rfl, Or.inl ⟨aCl_9, by rw [mC_264]; rfl, rfl, by rw [mC_264]; decide⟩⟩
set_option maxRecDepth 100000 in
theorem aA_265 : aMt[265]? = some aM_265 := rfl
theorem fM_265 : FM aM_265 := ⟨rfl, by decide, (plainFor_of_name rfl), by decide +kernel, by decide +kernel, by decide +kernel⟩
theorem wArr : ∀ ty, Cond.arrayClass ty ∈ [Cond.arrayClass .int, .arrayClass .long, .arrayClass .char, .arrayClass .byte, .arrayClass .boolean] → Cond.arrayClass ty ∈ wG := by
  intro ty h
  simp only [List.mem_cons, List.not_mem_nil, or_false, Cond.arrayClass.injEq] at h
  rcases h with rfl | rfl | rfl | rfl | rfl
  · exact (gW (gT1 (i := 62) rfl) rfl)
  · exact (gW (gT1 (i := 63) rfl) rfl)
  · exact (gW (gT1 (i := 121) rfl) rfl)
  · exact (gW (gT3 (i := 155) rfl) rfl)
  · exact (gW (gT5 (i := 92) rfl) rfl)
theorem wObj : Cond.code Lib.objectInit ⟨#[0xb1]⟩ 1 none ∈ wG := (gW (gT1 (i := 27) rfl) rfl)
theorem pL_0_0 : PL 0 (1, 0, 9, 96, 97, 0, 0, 0) := ⟨(gW (gT1 (i := 25) rfl) rfl), (gW (gT1 (i := 26) rfl) rfl)⟩
theorem pL_0_1 : PL 0 (9, 1, 5, 101, 102, 0, 73, 103) := ⟨_, aA_1, fM_1, fC_1, fI_1, (gT1 (i := 30) rfl)⟩
theorem pL_0_2 : PL 0 (18, 2, 4, 137, 138, 0, 74, 139) := ⟨_, aA_2, fM_2, fC_2, fI_2, (gW (gT1 (i := 66) rfl) rfl)⟩
theorem pL_0_3 : PL 0 (27, 4, 5, 178, 179, 0, 76, 180) := ⟨_, aA_4, fM_4, fC_4, fI_4, (gT1 (i := 107) rfl)⟩
theorem pL_0_4 : PL 0 (34, 5, 4, 195, 196, 0, 77, 197) := ⟨_, aA_5, fM_5, fC_5, fI_5, (gW (gT1 (i := 124) rfl) rfl)⟩
theorem pL_0_5 : PL 0 (43, 8, 5, 300, 301, 0, 80, 302) := ⟨_, aA_8, fM_8, fC_8, fI_8, (gT1 (i := 229) rfl)⟩
theorem pL_0_6 : PL 0 (50, 3, 5, 314, 144, 0, 75, 145) := ⟨_, aA_3, fM_3, fC_3, fI_3, (gT2 (i := 3) rfl)⟩
theorem pL_0_7 : PL 0 (55, 10, 0, 338, 339, 0, 82, 340) := ⟨_, aA_10, fM_10, fC_10, fS_10, (gW (gT2 (i := 27) rfl) rfl)⟩
theorem pL_0_8 : PL 0 (61, 11, 2, 342, 343, 344, 73, 345) := ⟨_, aA_11, fM_11, fC_11, fV_11, (gW (gT2 (i := 31) rfl) rfl)⟩
theorem pL_0_9 : PL 0 (65, 15, 2, 357, 358, 359, 74, 360) := ⟨_, aA_15, fM_15, fC_15, fV_15, (gW (gT2 (i := 46) rfl) rfl)⟩
theorem pL_0_10 : PL 0 (68, 63, 2, 551, 552, 553, 76, 554) := ⟨_, aA_63, fM_63, fC_63, fV_63, (gW (gT3 (i := 0) rfl) rfl)⟩
theorem pL_0_11 : PL 0 (71, 64, 2, 555, 556, 557, 76, 558) := ⟨_, aA_64, fM_64, fC_64, fV_64, (gW (gT3 (i := 4) rfl) rfl)⟩
theorem pL_0_12 : PL 0 (80, 67, 2, 567, 568, 569, 77, 570) := ⟨_, aA_67, fM_67, fC_67, fV_67, (gW (gT3 (i := 16) rfl) rfl)⟩
theorem pL_0_13 : PL 0 (84, 87, 2, 680, 681, 682, 73, 683) := ⟨_, aA_87, fM_87, fC_87, fV_87, (gW (gT3 (i := 129) rfl) rfl)⟩
theorem pL_0_14 : PL 0 (87, 13, 2, 711, 351, 352, 73, 353) := ⟨_, aA_13, fM_13, fC_13, fV_13, (gW (gT3 (i := 160) rfl) rfl)⟩
theorem pL_0_15 : PL 0 (99, 47, 2, 712, 478, 479, 78, 480) := ⟨_, aA_47, fM_47, fC_47, fV_47, (gW (gT3 (i := 161) rfl) rfl)⟩
theorem pL_0_16 : PL 0 (103, 94, 0, 713, 714, 0, 72, 715) := ⟨_, aA_94, fM_94, fC_94, fS_94, (gW (gT3 (i := 162) rfl) rfl)⟩
theorem pL_0_17 : PL 0 (115, 96, 2, 720, 721, 722, 73, 723) := ⟨_, aA_96, fM_96, fC_96, fV_96, (gW (gT3 (i := 169) rfl) rfl)⟩
theorem pL_0_18 : PL 0 (119, 99, 0, 732, 733, 0, 79, 734) := ⟨_, aA_99, fM_99, fC_99, fS_99, (gW (gT3 (i := 181) rfl) rfl)⟩
theorem pL_0_19 : PL 0 (125, 97, 2, 736, 725, 726, 78, 727) := ⟨_, aA_97, fM_97, fC_97, fV_97, (gW (gT3 (i := 185) rfl) rfl)⟩
theorem pL_0_20 : PL 0 (129, 34, 2, 737, 432, 433, 79, 434) := ⟨_, aA_34, fM_34, fC_34, fV_34, (gW (gT3 (i := 186) rfl) rfl)⟩
theorem pL_0_21 : PL 0 (132, 30, 2, 738, 417, 418, 79, 419) := ⟨_, aA_30, fM_30, fC_30, fV_30, (gW (gT3 (i := 187) rfl) rfl)⟩
theorem pL_0_22 : PL 0 (136, 101, 2, 743, 744, 745, 79, 746) := ⟨_, aA_101, fM_101, fC_101, fV_101, (gW (gT3 (i := 192) rfl) rfl)⟩
theorem pL_0_23 : PL 0 (140, 103, 2, 752, 753, 754, 73, 755) := ⟨_, aA_103, fM_103, fC_103, fV_103, (gW (gT3 (i := 201) rfl) rfl)⟩
theorem pL_0_24 : PL 0 (144, 61, 0, 759, 545, 0, 84, 546) := ⟨_, aA_61, fM_61, fC_61, fS_61, (gW (gT3 (i := 208) rfl) rfl)⟩
theorem pL_0_25 : PL 0 (149, 12, 2, 760, 347, 348, 73, 349) := ⟨_, aA_12, fM_12, fC_12, fV_12, (gW (gT3 (i := 209) rfl) rfl)⟩
theorem pL_0_26 : PL 0 (155, 106, 2, 765, 766, 767, 74, 768) := ⟨_, aA_106, fM_106, fC_106, fV_106, (gW (gT3 (i := 214) rfl) rfl)⟩
theorem pL_0_27 : PL 0 (159, 57, 2, 773, 522, 523, 78, 524) := ⟨_, aA_57, fM_57, fC_57, fV_57, (gW (gT3 (i := 222) rfl) rfl)⟩
theorem pL_0_28 : PL 0 (171, 109, 2, 778, 779, 780, 73, 781) := ⟨_, aA_109, fM_109, fC_109, fV_109, (gW (gT3 (i := 227) rfl) rfl)⟩
theorem pL_0_29 : PL 0 (175, 60, 2, 787, 541, 542, 73, 543) := ⟨_, aA_60, fM_60, fC_60, fV_60, (gW (gT3 (i := 236) rfl) rfl)⟩
theorem pL_0_30 : PL 0 (189, 54, 2, 800, 509, 510, 73, 511) := ⟨_, aA_54, fM_54, fC_54, fV_54, (gW (gT4 (i := 9) rfl) rfl)⟩
theorem pL_0_31 : PL 0 (200, 118, 2, 819, 820, 821, 73, 822) := ⟨_, aA_118, fM_118, fC_118, fV_118, (gW (gT4 (i := 28) rfl) rfl)⟩
theorem pL_0_32 : PL 0 (204, 120, 0, 827, 828, 0, 83, 829) := ⟨_, aA_120, fM_120, fC_120, fS_120, (gW (gT4 (i := 36) rfl) rfl)⟩
theorem pL_0_33 : PL 0 (210, 123, 0, 837, 838, 0, 83, 839) := ⟨_, aA_123, fM_123, fC_123, fS_123, (gW (gT4 (i := 46) rfl) rfl)⟩
theorem pL_0_34 : PL 0 (214, 126, 2, 848, 849, 850, 80, 851) := ⟨_, aA_126, fM_126, fC_126, fV_126, (gW (gT4 (i := 57) rfl) rfl)⟩
theorem pL_0_35 : PL 0 (222, 53, 2, 887, 505, 506, 73, 507) := ⟨_, aA_53, fM_53, fC_53, fV_53, (gW (gT4 (i := 96) rfl) rfl)⟩
theorem pL_0_36 : PL 0 (226, 23, 2, 892, 391, 392, 75, 393) := ⟨_, aA_23, fM_23, fC_23, fV_23, (gW (gT4 (i := 101) rfl) rfl)⟩
theorem pL_0_37 : PL 0 (233, 25, 0, 897, 400, 0, 82, 401) := ⟨_, aA_25, fM_25, fC_25, fS_25, (gW (gT4 (i := 106) rfl) rfl)⟩
theorem pL_0_38 : PL 0 (236, 107, 2, 902, 770, 771, 74, 772) := ⟨_, aA_107, fM_107, fC_107, fV_107, (gW (gT4 (i := 111) rfl) rfl)⟩
theorem pL_0_39 : PL 0 (239, 51, 2, 907, 496, 497, 78, 498) := ⟨_, aA_51, fM_51, fC_51, fV_51, (gW (gT4 (i := 116) rfl) rfl)⟩
theorem pL_0_40 : PL 0 (244, 20, 0, 913, 379, 0, 82, 380) := ⟨_, aA_20, fM_20, fC_20, fS_20, (gW (gT4 (i := 122) rfl) rfl)⟩
theorem pL_0_41 : PL 0 (247, 139, 2, 918, 919, 920, 75, 921) := ⟨_, aA_139, fM_139, fC_139, fV_139, (gW (gT4 (i := 127) rfl) rfl)⟩
theorem pL_0_42 : PL 0 (252, 142, 0, 931, 932, 0, 84, 933) := ⟨_, aA_142, fM_142, fC_142, fS_142, (gW (gT4 (i := 140) rfl) rfl)⟩
theorem pL_0_43 : PL 0 (256, 37, 0, 934, 443, 0, 82, 444) := ⟨_, aA_37, fM_37, fC_37, fS_37, (gW (gT4 (i := 143) rfl) rfl)⟩
theorem pL_0_44 : PL 0 (261, 145, 0, 944, 945, 0, 72, 946) := ⟨_, aA_145, fM_145, fC_145, fS_145, (gW (gT4 (i := 153) rfl) rfl)⟩
theorem pL_0_45 : PL 0 (264, 21, 0, 947, 384, 0, 82, 385) := ⟨_, aA_21, fM_21, fC_21, fS_21, (gW (gT4 (i := 156) rfl) rfl)⟩
theorem pL_0_46 : PL 0 (268, 22, 0, 956, 387, 0, 82, 388) := ⟨_, aA_22, fM_22, fC_22, fS_22, (gW (gT4 (i := 165) rfl) rfl)⟩
theorem pL_0_47 : PL 0 (273, 149, 2, 962, 963, 964, 75, 965) := ⟨_, aA_149, fM_149, fC_149, fV_149, (gW (gT4 (i := 171) rfl) rfl)⟩
theorem pL_0_48 : PL 0 (276, 150, 2, 966, 967, 968, 75, 969) := ⟨_, aA_150, fM_150, fC_150, fV_150, (gW (gT4 (i := 175) rfl) rfl)⟩
theorem pL_0_49 : PL 0 (280, 48, 0, 975, 483, 0, 82, 484) := ⟨_, aA_48, fM_48, fC_48, fS_48, (gW (gT4 (i := 184) rfl) rfl)⟩
theorem pL_0_50 : PL 0 (284, 50, 0, 980, 493, 0, 82, 494) := ⟨_, aA_50, fM_50, fC_50, fS_50, (gW (gT4 (i := 189) rfl) rfl)⟩
theorem pL_0_51 : PL 0 (288, 155, 0, 989, 990, 0, 90, 991) := ⟨_, aA_155, fM_155, fC_155, fS_155, (gW (gT4 (i := 198) rfl) rfl)⟩
theorem pL_0_52 : PL 0 (294, 156, 2, 995, 996, 997, 73, 998) := ⟨_, aA_156, fM_156, fC_156, fV_156, (gW (gT4 (i := 204) rfl) rfl)⟩
theorem pL_0_53 : PL 0 (297, 157, 2, 999, 1000, 1001, 73, 1002) := ⟨_, aA_157, fM_157, fC_157, fV_157, (gW (gT4 (i := 208) rfl) rfl)⟩
theorem pL_0_54 : PL 0 (300, 158, 2, 1003, 1004, 1005, 73, 1006) := ⟨_, aA_158, fM_158, fC_158, fV_158, (gW (gT4 (i := 212) rfl) rfl)⟩
theorem pL_0_55 : PL 0 (303, 159, 2, 1007, 1008, 1009, 73, 1010) := ⟨_, aA_159, fM_159, fC_159, fV_159, (gW (gT4 (i := 216) rfl) rfl)⟩
set_option maxRecDepth 100000 in
theorem pL_0 : ∀ e ∈ aLM0, PL 0 e := List.forall_mem_cons.mpr ⟨pL_0_0, List.forall_mem_cons.mpr ⟨pL_0_1, List.forall_mem_cons.mpr ⟨pL_0_2, List.forall_mem_cons.mpr ⟨pL_0_3, List.forall_mem_cons.mpr ⟨pL_0_4, List.forall_mem_cons.mpr ⟨pL_0_5, List.forall_mem_cons.mpr ⟨pL_0_6, List.forall_mem_cons.mpr ⟨pL_0_7, List.forall_mem_cons.mpr ⟨pL_0_8, List.forall_mem_cons.mpr ⟨pL_0_9, List.forall_mem_cons.mpr ⟨pL_0_10, List.forall_mem_cons.mpr ⟨pL_0_11, List.forall_mem_cons.mpr ⟨pL_0_12, List.forall_mem_cons.mpr ⟨pL_0_13, List.forall_mem_cons.mpr ⟨pL_0_14, List.forall_mem_cons.mpr ⟨pL_0_15, List.forall_mem_cons.mpr ⟨pL_0_16, List.forall_mem_cons.mpr ⟨pL_0_17, List.forall_mem_cons.mpr ⟨pL_0_18, List.forall_mem_cons.mpr ⟨pL_0_19, List.forall_mem_cons.mpr ⟨pL_0_20, List.forall_mem_cons.mpr ⟨pL_0_21, List.forall_mem_cons.mpr ⟨pL_0_22, List.forall_mem_cons.mpr ⟨pL_0_23, List.forall_mem_cons.mpr ⟨pL_0_24, List.forall_mem_cons.mpr ⟨pL_0_25, List.forall_mem_cons.mpr ⟨pL_0_26, List.forall_mem_cons.mpr ⟨pL_0_27, List.forall_mem_cons.mpr ⟨pL_0_28, List.forall_mem_cons.mpr ⟨pL_0_29, List.forall_mem_cons.mpr ⟨pL_0_30, List.forall_mem_cons.mpr ⟨pL_0_31, List.forall_mem_cons.mpr ⟨pL_0_32, List.forall_mem_cons.mpr ⟨pL_0_33, List.forall_mem_cons.mpr ⟨pL_0_34, List.forall_mem_cons.mpr ⟨pL_0_35, List.forall_mem_cons.mpr ⟨pL_0_36, List.forall_mem_cons.mpr ⟨pL_0_37, List.forall_mem_cons.mpr ⟨pL_0_38, List.forall_mem_cons.mpr ⟨pL_0_39, List.forall_mem_cons.mpr ⟨pL_0_40, List.forall_mem_cons.mpr ⟨pL_0_41, List.forall_mem_cons.mpr ⟨pL_0_42, List.forall_mem_cons.mpr ⟨pL_0_43, List.forall_mem_cons.mpr ⟨pL_0_44, List.forall_mem_cons.mpr ⟨pL_0_45, List.forall_mem_cons.mpr ⟨pL_0_46, List.forall_mem_cons.mpr ⟨pL_0_47, List.forall_mem_cons.mpr ⟨pL_0_48, List.forall_mem_cons.mpr ⟨pL_0_49, List.forall_mem_cons.mpr ⟨pL_0_50, List.forall_mem_cons.mpr ⟨pL_0_51, List.forall_mem_cons.mpr ⟨pL_0_52, List.forall_mem_cons.mpr ⟨pL_0_53, List.forall_mem_cons.mpr ⟨pL_0_54, List.forall_mem_cons.mpr ⟨pL_0_55, fun _ h => absurd h List.not_mem_nil⟩⟩⟩⟩⟩⟩⟩⟩⟩⟩⟩⟩⟩⟩⟩⟩⟩⟩⟩⟩⟩⟩⟩⟩⟩⟩⟩⟩⟩⟩⟩⟩⟩⟩⟩⟩⟩⟩⟩⟩⟩⟩⟩⟩⟩⟩⟩⟩⟩⟩⟩⟩⟩⟩⟩⟩
theorem pL_1_0 : PL 1 (3, 0, 9, 104, 97, 0, 0, 0) := ⟨(gW (gT1 (i := 33) rfl) rfl), (gW (gT1 (i := 26) rfl) rfl)⟩
theorem pL_1_1 : PL 1 (58, 12, 2, 346, 347, 348, 73, 349) := ⟨_, aA_12, fM_12, fC_12, fV_12, (gW (gT2 (i := 35) rfl) rfl)⟩
theorem pL_1_2 : PL 1 (32, 13, 2, 350, 351, 352, 73, 353) := ⟨_, aA_13, fM_13, fC_13, fV_13, (gW (gT2 (i := 39) rfl) rfl)⟩
theorem pL_1_3 : PL 1 (47, 14, 0, 354, 355, 0, 73, 356) := ⟨_, aA_14, fM_14, fC_14, fS_14, (gW (gT2 (i := 43) rfl) rfl)⟩
theorem pL_1_4 : PL 1 (54, 54, 2, 508, 509, 510, 73, 511) := ⟨_, aA_54, fM_54, fC_54, fV_54, (gW (gT2 (i := 197) rfl) rfl)⟩
theorem pL_1_5 : PL 1 (69, 56, 2, 516, 517, 518, 73, 519) := ⟨_, aA_56, fM_56, fC_56, fV_56, (gW (gT2 (i := 205) rfl) rfl)⟩
theorem pL_1_6 : PL 1 (64, 6, 5, 520, 202, 0, 78, 203) := ⟨_, aA_6, fM_6, fC_6, fI_6, (gT2 (i := 209) rfl)⟩
theorem pL_1_7 : PL 1 (65, 57, 2, 521, 522, 523, 78, 524) := ⟨_, aA_57, fM_57, fC_57, fV_57, (gW (gT2 (i := 210) rfl) rfl)⟩
theorem pL_1_8 : PL 1 (73, 59, 2, 532, 534, 6, 73, 535) := ⟨_, aA_59, fM_59, fC_59, fV_59, (gW (gT2 (i := 221) rfl) rfl)⟩
theorem pL_1_9 : PL 1 (124, 51, 2, 537, 496, 497, 78, 498) := ⟨_, aA_51, fM_51, fC_51, fV_51, (gW (gT2 (i := 226) rfl) rfl)⟩
theorem pL_1_10 : PL 1 (128, 52, 2, 538, 500, 501, 78, 502) := ⟨_, aA_52, fM_52, fC_52, fV_52, (gW (gT2 (i := 227) rfl) rfl)⟩
theorem pL_1_11 : PL 1 (83, 42, 0, 539, 461, 0, 84, 462) := ⟨_, aA_42, fM_42, fC_42, fS_42, (gW (gT2 (i := 228) rfl) rfl)⟩
theorem pL_1_12 : PL 1 (77, 61, 0, 544, 545, 0, 84, 546) := ⟨_, aA_61, fM_61, fC_61, fS_61, (gW (gT2 (i := 233) rfl) rfl)⟩
theorem pL_1_13 : PL 1 (94, 88, 2, 684, 686, 17, 73, 687) := ⟨_, aA_88, fM_88, fC_88, fV_88, (gW (gT3 (i := 133) rfl) rfl)⟩
theorem pL_1_14 : PL 1 (97, 89, 0, 688, 689, 0, 83, 690) := ⟨_, aA_89, fM_89, fC_89, fS_89, (gW (gT3 (i := 137) rfl) rfl)⟩
theorem pL_1_15 : PL 1 (107, 90, 2, 692, 693, 694, 79, 695) := ⟨_, aA_90, fM_90, fC_90, fV_90, (gW (gT3 (i := 141) rfl) rfl)⟩
theorem pL_1_16 : PL 1 (114, 91, 2, 696, 698, 18, 73, 699) := ⟨_, aA_91, fM_91, fC_91, fV_91, (gW (gT3 (i := 145) rfl) rfl)⟩
theorem pL_1_17 : PL 1 (121, 92, 0, 700, 701, 0, 83, 702) := ⟨_, aA_92, fM_92, fC_92, fS_92, (gW (gT3 (i := 149) rfl) rfl)⟩
theorem pL_1_18 : PL 1 (36, 97, 2, 724, 725, 726, 78, 727) := ⟨_, aA_97, fM_97, fC_97, fV_97, (gW (gT3 (i := 173) rfl) rfl)⟩
theorem pL_1_19 : PL 1 (40, 98, 2, 728, 729, 730, 79, 731) := ⟨_, aA_98, fM_98, fC_98, fV_98, (gW (gT3 (i := 177) rfl) rfl)⟩
theorem pL_1_20 : PL 1 (86, 104, 0, 756, 757, 0, 84, 758) := ⟨_, aA_104, fM_104, fC_104, fS_104, (gW (gT3 (i := 205) rfl) rfl)⟩
theorem pL_1_21 : PL 1 (90, 60, 2, 782, 541, 542, 73, 543) := ⟨_, aA_60, fM_60, fC_60, fV_60, (gW (gT3 (i := 231) rfl) rfl)⟩
theorem pL_1_22 : PL 1 (133, 120, 0, 1011, 828, 0, 83, 829) := ⟨_, aA_120, fM_120, fC_120, fS_120, (gW (gT4 (i := 220) rfl) rfl)⟩
set_option maxRecDepth 100000 in
theorem pL_1 : ∀ e ∈ aLM1, PL 1 e := List.forall_mem_cons.mpr ⟨pL_1_0, List.forall_mem_cons.mpr ⟨pL_1_1, List.forall_mem_cons.mpr ⟨pL_1_2, List.forall_mem_cons.mpr ⟨pL_1_3, List.forall_mem_cons.mpr ⟨pL_1_4, List.forall_mem_cons.mpr ⟨pL_1_5, List.forall_mem_cons.mpr ⟨pL_1_6, List.forall_mem_cons.mpr ⟨pL_1_7, List.forall_mem_cons.mpr ⟨pL_1_8, List.forall_mem_cons.mpr ⟨pL_1_9, List.forall_mem_cons.mpr ⟨pL_1_10, List.forall_mem_cons.mpr ⟨pL_1_11, List.forall_mem_cons.mpr ⟨pL_1_12, List.forall_mem_cons.mpr ⟨pL_1_13, List.forall_mem_cons.mpr ⟨pL_1_14, List.forall_mem_cons.mpr ⟨pL_1_15, List.forall_mem_cons.mpr ⟨pL_1_16, List.forall_mem_cons.mpr ⟨pL_1_17, List.forall_mem_cons.mpr ⟨pL_1_18, List.forall_mem_cons.mpr ⟨pL_1_19, List.forall_mem_cons.mpr ⟨pL_1_20, List.forall_mem_cons.mpr ⟨pL_1_21, List.forall_mem_cons.mpr ⟨pL_1_22, fun _ h => absurd h List.not_mem_nil⟩⟩⟩⟩⟩⟩⟩⟩⟩⟩⟩⟩⟩⟩⟩⟩⟩⟩⟩⟩⟩⟩⟩
theorem pL_2_0 : PL 2 (3, 0, 9, 140, 97, 0, 0, 0) := ⟨(gW (gT1 (i := 69) rfl) rfl), (gW (gT1 (i := 26) rfl) rfl)⟩
theorem pL_2_1 : PL 2 (11, 3, 5, 143, 144, 0, 75, 145) := ⟨_, aA_3, fM_3, fC_3, fI_3, (gT1 (i := 72) rfl)⟩
theorem pL_2_2 : PL 2 (37, 16, 2, 361, 363, 0, 74, 364) := ⟨_, aA_16, fM_16, fC_16, fV_16, (gW (gT2 (i := 50) rfl) rfl)⟩
theorem pL_2_3 : PL 2 (45, 17, 2, 365, 367, 1, 74, 368) := ⟨_, aA_17, fM_17, fC_17, fV_17, (gW (gT2 (i := 54) rfl) rfl)⟩
theorem pL_2_4 : PL 2 (72, 6, 5, 369, 202, 0, 78, 203) := ⟨_, aA_6, fM_6, fC_6, fI_6, (gT2 (i := 58) rfl)⟩
theorem pL_2_5 : PL 2 (49, 18, 2, 370, 372, 2, 74, 373) := ⟨_, aA_18, fM_18, fC_18, fV_18, (gW (gT2 (i := 59) rfl) rfl)⟩
theorem pL_2_6 : PL 2 (77, 19, 2, 374, 375, 376, 78, 377) := ⟨_, aA_19, fM_19, fC_19, fV_19, (gW (gT2 (i := 63) rfl) rfl)⟩
theorem pL_2_7 : PL 2 (81, 20, 0, 378, 379, 0, 82, 380) := ⟨_, aA_20, fM_20, fC_20, fS_20, (gW (gT2 (i := 67) rfl) rfl)⟩
theorem pL_2_8 : PL 2 (87, 23, 2, 390, 391, 392, 75, 393) := ⟨_, aA_23, fM_23, fC_23, fV_23, (gW (gT2 (i := 79) rfl) rfl)⟩
theorem pL_2_9 : PL 2 (94, 27, 0, 406, 407, 0, 74, 408) := ⟨_, aA_27, fM_27, fC_27, fS_27, (gW (gT2 (i := 95) rfl) rfl)⟩
theorem pL_2_10 : PL 2 (106, 28, 0, 409, 410, 0, 74, 411) := ⟨_, aA_28, fM_28, fC_28, fS_28, (gW (gT2 (i := 98) rfl) rfl)⟩
theorem pL_2_11 : PL 2 (117, 29, 2, 412, 413, 414, 79, 415) := ⟨_, aA_29, fM_29, fC_29, fV_29, (gW (gT2 (i := 101) rfl) rfl)⟩
theorem pL_2_12 : PL 2 (99, 31, 2, 420, 422, 5, 74, 423) := ⟨_, aA_31, fM_31, fC_31, fV_31, (gW (gT2 (i := 109) rfl) rfl)⟩
theorem pL_2_13 : PL 2 (123, 32, 0, 424, 425, 0, 83, 426) := ⟨_, aA_32, fM_32, fC_32, fS_32, (gW (gT2 (i := 113) rfl) rfl)⟩
theorem pL_2_14 : PL 2 (53, 38, 0, 445, 446, 0, 74, 447) := ⟨_, aA_38, fM_38, fC_38, fS_38, (gW (gT2 (i := 134) rfl) rfl)⟩
theorem pL_2_15 : PL 2 (131, 39, 0, 448, 449, 0, 74, 450) := ⟨_, aA_39, fM_39, fC_39, fS_39, (gW (gT2 (i := 137) rfl) rfl)⟩
theorem pL_2_16 : PL 2 (141, 30, 2, 451, 417, 418, 79, 419) := ⟨_, aA_30, fM_30, fC_30, fV_30, (gW (gT2 (i := 140) rfl) rfl)⟩
theorem pL_2_17 : PL 2 (144, 40, 0, 452, 453, 0, 83, 454) := ⟨_, aA_40, fM_40, fC_40, fS_40, (gW (gT2 (i := 141) rfl) rfl)⟩
theorem pL_2_18 : PL 2 (134, 43, 0, 463, 464, 0, 74, 465) := ⟨_, aA_43, fM_43, fC_43, fS_43, (gW (gT2 (i := 152) rfl) rfl)⟩
theorem pL_2_19 : PL 2 (150, 34, 2, 466, 432, 433, 79, 434) := ⟨_, aA_34, fM_34, fC_34, fV_34, (gW (gT2 (i := 155) rfl) rfl)⟩
theorem pL_2_20 : PL 2 (154, 44, 0, 467, 468, 0, 74, 469) := ⟨_, aA_44, fM_44, fC_44, fS_44, (gW (gT2 (i := 156) rfl) rfl)⟩
theorem pL_2_21 : PL 2 (157, 41, 0, 470, 457, 0, 83, 458) := ⟨_, aA_41, fM_41, fC_41, fS_41, (gW (gT2 (i := 159) rfl) rfl)⟩
theorem pL_2_22 : PL 2 (137, 45, 0, 471, 472, 0, 74, 473) := ⟨_, aA_45, fM_45, fC_45, fS_45, (gW (gT2 (i := 160) rfl) rfl)⟩
theorem pL_2_23 : PL 2 (166, 46, 0, 474, 475, 0, 83, 476) := ⟨_, aA_46, fM_46, fC_46, fS_46, (gW (gT2 (i := 163) rfl) rfl)⟩
theorem pL_2_24 : PL 2 (57, 51, 2, 495, 496, 497, 78, 498) := ⟨_, aA_51, fM_51, fC_51, fV_51, (gW (gT2 (i := 184) rfl) rfl)⟩
theorem pL_2_25 : PL 2 (61, 52, 2, 499, 500, 501, 78, 502) := ⟨_, aA_52, fM_52, fC_52, fV_52, (gW (gT2 (i := 188) rfl) rfl)⟩
theorem pL_2_26 : PL 2 (65, 53, 2, 504, 505, 506, 73, 507) := ⟨_, aA_53, fM_53, fC_53, fV_53, (gW (gT2 (i := 193) rfl) rfl)⟩
theorem pL_2_27 : PL 2 (68, 55, 2, 512, 513, 514, 73, 515) := ⟨_, aA_55, fM_55, fC_55, fV_55, (gW (gT2 (i := 201) rfl) rfl)⟩
theorem pL_2_28 : PL 2 (41, 60, 2, 540, 541, 542, 73, 543) := ⟨_, aA_60, fM_60, fC_60, fV_60, (gW (gT2 (i := 229) rfl) rfl)⟩
theorem pL_2_29 : PL 2 (73, 107, 2, 769, 770, 771, 74, 772) := ⟨_, aA_107, fM_107, fC_107, fV_107, (gW (gT3 (i := 218) rfl) rfl)⟩
set_option maxRecDepth 100000 in
theorem pL_2 : ∀ e ∈ aLM2, PL 2 e := List.forall_mem_cons.mpr ⟨pL_2_0, List.forall_mem_cons.mpr ⟨pL_2_1, List.forall_mem_cons.mpr ⟨pL_2_2, List.forall_mem_cons.mpr ⟨pL_2_3, List.forall_mem_cons.mpr ⟨pL_2_4, List.forall_mem_cons.mpr ⟨pL_2_5, List.forall_mem_cons.mpr ⟨pL_2_6, List.forall_mem_cons.mpr ⟨pL_2_7, List.forall_mem_cons.mpr ⟨pL_2_8, List.forall_mem_cons.mpr ⟨pL_2_9, List.forall_mem_cons.mpr ⟨pL_2_10, List.forall_mem_cons.mpr ⟨pL_2_11, List.forall_mem_cons.mpr ⟨pL_2_12, List.forall_mem_cons.mpr ⟨pL_2_13, List.forall_mem_cons.mpr ⟨pL_2_14, List.forall_mem_cons.mpr ⟨pL_2_15, List.forall_mem_cons.mpr ⟨pL_2_16, List.forall_mem_cons.mpr ⟨pL_2_17, List.forall_mem_cons.mpr ⟨pL_2_18, List.forall_mem_cons.mpr ⟨pL_2_19, List.forall_mem_cons.mpr ⟨pL_2_20, List.forall_mem_cons.mpr ⟨pL_2_21, List.forall_mem_cons.mpr ⟨pL_2_22, List.forall_mem_cons.mpr ⟨pL_2_23, List.forall_mem_cons.mpr ⟨pL_2_24, List.forall_mem_cons.mpr ⟨pL_2_25, List.forall_mem_cons.mpr ⟨pL_2_26, List.forall_mem_cons.mpr ⟨pL_2_27, List.forall_mem_cons.mpr ⟨pL_2_28, List.forall_mem_cons.mpr ⟨pL_2_29, fun _ h => absurd h List.not_mem_nil⟩⟩⟩⟩⟩⟩⟩⟩⟩⟩⟩⟩⟩⟩⟩⟩⟩⟩⟩⟩⟩⟩⟩⟩⟩⟩⟩⟩⟩⟩
theorem pL_3_0 : PL 3 (3, 0, 9, 146, 97, 0, 0, 0) := ⟨(gW (gT1 (i := 75) rfl) rfl), (gW (gT1 (i := 26) rfl) rfl)⟩
theorem pL_3_1 : PL 3 (22, 20, 0, 394, 379, 0, 82, 380) := ⟨_, aA_20, fM_20, fC_20, fS_20, (gW (gT2 (i := 83) rfl) rfl)⟩
theorem pL_3_2 : PL 3 (28, 24, 2, 395, 397, 3, 75, 398) := ⟨_, aA_24, fM_24, fC_24, fV_24, (gW (gT2 (i := 84) rfl) rfl)⟩
theorem pL_3_3 : PL 3 (36, 25, 0, 399, 400, 0, 82, 401) := ⟨_, aA_25, fM_25, fC_25, fS_25, (gW (gT2 (i := 88) rfl) rfl)⟩
theorem pL_3_4 : PL 3 (32, 26, 2, 402, 404, 4, 75, 405) := ⟨_, aA_26, fM_26, fC_26, fV_26, (gW (gT2 (i := 91) rfl) rfl)⟩
theorem pL_3_5 : PL 3 (39, 22, 0, 970, 387, 0, 82, 388) := ⟨_, aA_22, fM_22, fC_22, fS_22, (gW (gT4 (i := 179) rfl) rfl)⟩
set_option maxRecDepth 100000 in
theorem pL_3 : ∀ e ∈ aLM3, PL 3 e := List.forall_mem_cons.mpr ⟨pL_3_0, List.forall_mem_cons.mpr ⟨pL_3_1, List.forall_mem_cons.mpr ⟨pL_3_2, List.forall_mem_cons.mpr ⟨pL_3_3, List.forall_mem_cons.mpr ⟨pL_3_4, List.forall_mem_cons.mpr ⟨pL_3_5, fun _ h => absurd h List.not_mem_nil⟩⟩⟩⟩⟩⟩
theorem pL_4_0 : PL 4 (3, 0, 9, 181, 97, 0, 0, 0) := ⟨(gW (gT1 (i := 110) rfl) rfl), (gW (gT1 (i := 26) rfl) rfl)⟩
set_option maxRecDepth 100000 in
theorem pL_4 : ∀ e ∈ aLM4, PL 4 e := List.forall_mem_cons.mpr ⟨pL_4_0, fun _ h => absurd h List.not_mem_nil⟩
theorem pL_5_0 : PL 5 (3, 0, 9, 198, 97, 0, 0, 0) := ⟨(gW (gT1 (i := 127) rfl) rfl), (gW (gT1 (i := 26) rfl) rfl)⟩
theorem pL_5_1 : PL 5 (11, 6, 5, 201, 202, 0, 78, 203) := ⟨_, aA_6, fM_6, fC_6, fI_6, (gT1 (i := 130) rfl)⟩
theorem pL_5_2 : PL 5 (33, 68, 2, 571, 573, 7, 77, 574) := ⟨_, aA_68, fM_68, fC_68, fV_68, (gW (gT3 (i := 20) rfl) rfl)⟩
theorem pL_5_3 : PL 5 (58, 69, 0, 575, 576, 0, 77, 577) := ⟨_, aA_69, fM_69, fC_69, fS_69, (gW (gT3 (i := 24) rfl) rfl)⟩
theorem pL_5_4 : PL 5 (36, 70, 2, 578, 580, 8, 77, 581) := ⟨_, aA_70, fM_70, fC_70, fV_70, (gW (gT3 (i := 27) rfl) rfl)⟩
theorem pL_5_5 : PL 5 (78, 71, 2, 582, 584, 9, 77, 585) := ⟨_, aA_71, fM_71, fC_71, fV_71, (gW (gT3 (i := 31) rfl) rfl)⟩
theorem pL_5_6 : PL 5 (117, 72, 0, 586, 587, 0, 80, 588) := ⟨_, aA_72, fM_72, fC_72, fS_72, (gW (gT3 (i := 35) rfl) rfl)⟩
theorem pL_5_7 : PL 5 (72, 73, 2, 594, 596, 10, 77, 597) := ⟨_, aA_73, fM_73, fC_73, fV_73, (gW (gT3 (i := 43) rfl) rfl)⟩
theorem pL_5_8 : PL 5 (62, 74, 2, 598, 599, 600, 86, 601) := ⟨_, aA_74, fM_74, fC_74, fV_74, (gW (gT3 (i := 47) rfl) rfl)⟩
theorem pL_5_9 : PL 5 (68, 76, 2, 608, 609, 610, 86, 611) := ⟨_, aA_76, fM_76, fC_76, fV_76, (gW (gT3 (i := 57) rfl) rfl)⟩
theorem pL_5_10 : PL 5 (82, 81, 2, 647, 649, 11, 77, 650) := ⟨_, aA_81, fM_81, fC_81, fV_81, (gW (gT3 (i := 96) rfl) rfl)⟩
theorem pL_5_11 : PL 5 (86, 19, 2, 652, 375, 376, 78, 377) := ⟨_, aA_19, fM_19, fC_19, fV_19, (gW (gT3 (i := 101) rfl) rfl)⟩
theorem pL_5_12 : PL 5 (90, 82, 2, 653, 655, 12, 77, 656) := ⟨_, aA_82, fM_82, fC_82, fV_82, (gW (gT3 (i := 102) rfl) rfl)⟩
theorem pL_5_13 : PL 5 (98, 83, 2, 658, 660, 13, 77, 661) := ⟨_, aA_83, fM_83, fC_83, fV_83, (gW (gT3 (i := 107) rfl) rfl)⟩
theorem pL_5_14 : PL 5 (105, 84, 2, 663, 665, 14, 77, 666) := ⟨_, aA_84, fM_84, fC_84, fV_84, (gW (gT3 (i := 112) rfl) rfl)⟩
theorem pL_5_15 : PL 5 (133, 29, 2, 667, 413, 414, 79, 415) := ⟨_, aA_29, fM_29, fC_29, fV_29, (gW (gT3 (i := 116) rfl) rfl)⟩
theorem pL_5_16 : PL 5 (93, 85, 2, 668, 670, 15, 77, 671) := ⟨_, aA_85, fM_85, fC_85, fV_85, (gW (gT3 (i := 117) rfl) rfl)⟩
theorem pL_5_17 : PL 5 (109, 86, 2, 672, 674, 16, 77, 675) := ⟨_, aA_86, fM_86, fC_86, fV_86, (gW (gT3 (i := 121) rfl) rfl)⟩
theorem pL_5_18 : PL 5 (43, 56, 2, 679, 517, 518, 73, 519) := ⟨_, aA_56, fM_56, fC_56, fV_56, (gW (gT3 (i := 128) rfl) rfl)⟩
set_option maxRecDepth 100000 in
theorem pL_5 : ∀ e ∈ aLM5, PL 5 e := List.forall_mem_cons.mpr ⟨pL_5_0, List.forall_mem_cons.mpr ⟨pL_5_1, List.forall_mem_cons.mpr ⟨pL_5_2, List.forall_mem_cons.mpr ⟨pL_5_3, List.forall_mem_cons.mpr ⟨pL_5_4, List.forall_mem_cons.mpr ⟨pL_5_5, List.forall_mem_cons.mpr ⟨pL_5_6, List.forall_mem_cons.mpr ⟨pL_5_7, List.forall_mem_cons.mpr ⟨pL_5_8, List.forall_mem_cons.mpr ⟨pL_5_9, List.forall_mem_cons.mpr ⟨pL_5_10, List.forall_mem_cons.mpr ⟨pL_5_11, List.forall_mem_cons.mpr ⟨pL_5_12, List.forall_mem_cons.mpr ⟨pL_5_13, List.forall_mem_cons.mpr ⟨pL_5_14, List.forall_mem_cons.mpr ⟨pL_5_15, List.forall_mem_cons.mpr ⟨pL_5_16, List.forall_mem_cons.mpr ⟨pL_5_17, List.forall_mem_cons.mpr ⟨pL_5_18, fun _ h => absurd h List.not_mem_nil⟩⟩⟩⟩⟩⟩⟩⟩⟩⟩⟩⟩⟩⟩⟩⟩⟩⟩⟩
theorem pL_6_0 : PL 6 (3, 0, 9, 204, 97, 0, 0, 0) := ⟨(gW (gT1 (i := 133) rfl) rfl), (gW (gT1 (i := 26) rfl) rfl)⟩
theorem pL_6_1 : PL 6 (11, 7, 5, 207, 208, 0, 79, 209) := ⟨_, aA_7, fM_7, fC_7, fI_7, (gT1 (i := 136) rfl)⟩
theorem pL_6_2 : PL 6 (44, 34, 2, 503, 432, 433, 79, 434) := ⟨_, aA_34, fM_34, fC_34, fV_34, (gW (gT2 (i := 192) rfl) rfl)⟩
theorem pL_6_3 : PL 6 (40, 58, 2, 525, 526, 527, 79, 528) := ⟨_, aA_58, fM_58, fC_58, fV_58, (gW (gT2 (i := 214) rfl) rfl)⟩
set_option maxRecDepth 100000 in
theorem pL_6 : ∀ e ∈ aLM6, PL 6 e := List.forall_mem_cons.mpr ⟨pL_6_0, List.forall_mem_cons.mpr ⟨pL_6_1, List.forall_mem_cons.mpr ⟨pL_6_2, List.forall_mem_cons.mpr ⟨pL_6_3, fun _ h => absurd h List.not_mem_nil⟩⟩⟩⟩
theorem pL_7_0 : PL 7 (3, 0, 9, 210, 97, 0, 0, 0) := ⟨(gW (gT1 (i := 139) rfl) rfl), (gW (gT1 (i := 26) rfl) rfl)⟩
theorem pL_7_1 : PL 7 (25, 30, 2, 416, 417, 418, 79, 419) := ⟨_, aA_30, fM_30, fC_30, fV_30, (gW (gT2 (i := 105) rfl) rfl)⟩
theorem pL_7_2 : PL 7 (38, 34, 2, 431, 432, 433, 79, 434) := ⟨_, aA_34, fM_34, fC_34, fV_34, (gW (gT2 (i := 120) rfl) rfl)⟩
theorem pL_7_3 : PL 7 (32, 0, 8, 529, 530, 531, 85, 0) := ⟨(gW (gT2 (i := 218) rfl) rfl), (gW (gT2 (i := 219) rfl) rfl), (gW (gT2 (i := 220) rfl) rfl), (gW (gT1 (i := 14) rfl) rfl)⟩
theorem pL_7_4 : PL 7 (15, 10, 0, 735, 339, 0, 82, 340) := ⟨_, aA_10, fM_10, fC_10, fS_10, (gW (gT3 (i := 184) rfl) rfl)⟩
theorem pL_7_5 : PL 7 (29, 98, 2, 747, 729, 730, 79, 731) := ⟨_, aA_98, fM_98, fC_98, fV_98, (gW (gT3 (i := 196) rfl) rfl)⟩
set_option maxRecDepth 100000 in
theorem pL_7 : ∀ e ∈ aLM7, PL 7 e := List.forall_mem_cons.mpr ⟨pL_7_0, List.forall_mem_cons.mpr ⟨pL_7_1, List.forall_mem_cons.mpr ⟨pL_7_2, List.forall_mem_cons.mpr ⟨pL_7_3, List.forall_mem_cons.mpr ⟨pL_7_4, List.forall_mem_cons.mpr ⟨pL_7_5, fun _ h => absurd h List.not_mem_nil⟩⟩⟩⟩⟩⟩
theorem pL_8_0 : PL 8 (3, 0, 9, 303, 97, 0, 0, 0) := ⟨(gW (gT1 (i := 232) rfl) rfl), (gW (gT1 (i := 26) rfl) rfl)⟩
theorem pL_8_1 : PL 8 (34, 72, 0, 852, 587, 0, 80, 588) := ⟨_, aA_72, fM_72, fC_72, fS_72, (gW (gT4 (i := 61) rfl) rfl)⟩
theorem pL_8_2 : PL 8 (38, 127, 2, 853, 855, 19, 80, 856) := ⟨_, aA_127, fM_127, fC_127, fV_127, (gW (gT4 (i := 62) rfl) rfl)⟩
theorem pL_8_3 : PL 8 (89, 128, 2, 857, 859, 20, 80, 860) := ⟨_, aA_128, fM_128, fC_128, fV_128, (gW (gT4 (i := 66) rfl) rfl)⟩
theorem pL_8_4 : PL 8 (85, 129, 2, 861, 863, 21, 80, 864) := ⟨_, aA_129, fM_129, fC_129, fV_129, (gW (gT4 (i := 70) rfl) rfl)⟩
theorem pL_8_5 : PL 8 (92, 74, 2, 865, 599, 600, 86, 601) := ⟨_, aA_74, fM_74, fC_74, fV_74, (gW (gT4 (i := 74) rfl) rfl)⟩
theorem pL_8_6 : PL 8 (98, 76, 2, 866, 609, 610, 86, 611) := ⟨_, aA_76, fM_76, fC_76, fV_76, (gW (gT4 (i := 75) rfl) rfl)⟩
theorem pL_8_7 : PL 8 (45, 130, 2, 867, 869, 22, 80, 870) := ⟨_, aA_130, fM_130, fC_130, fV_130, (gW (gT4 (i := 76) rfl) rfl)⟩
theorem pL_8_8 : PL 8 (49, 47, 2, 872, 478, 479, 78, 480) := ⟨_, aA_47, fM_47, fC_47, fV_47, (gW (gT4 (i := 81) rfl) rfl)⟩
theorem pL_8_9 : PL 8 (70, 34, 2, 875, 432, 433, 79, 434) := ⟨_, aA_34, fM_34, fC_34, fV_34, (gW (gT4 (i := 84) rfl) rfl)⟩
theorem pL_8_10 : PL 8 (75, 131, 2, 877, 879, 23, 80, 880) := ⟨_, aA_131, fM_131, fC_131, fV_131, (gW (gT4 (i := 86) rfl) rfl)⟩
set_option maxRecDepth 100000 in
theorem pL_8 : ∀ e ∈ aLM8, PL 8 e := List.forall_mem_cons.mpr ⟨pL_8_0, List.forall_mem_cons.mpr ⟨pL_8_1, List.forall_mem_cons.mpr ⟨pL_8_2, List.forall_mem_cons.mpr ⟨pL_8_3, List.forall_mem_cons.mpr ⟨pL_8_4, List.forall_mem_cons.mpr ⟨pL_8_5, List.forall_mem_cons.mpr ⟨pL_8_6, List.forall_mem_cons.mpr ⟨pL_8_7, List.forall_mem_cons.mpr ⟨pL_8_8, List.forall_mem_cons.mpr ⟨pL_8_9, List.forall_mem_cons.mpr ⟨pL_8_10, fun _ h => absurd h List.not_mem_nil⟩⟩⟩⟩⟩⟩⟩⟩⟩⟩⟩
theorem pL_9_0 : PL 9 (36, 21, 0, 383, 384, 0, 82, 385) := ⟨_, aA_21, fM_21, fC_21, fS_21, (gW (gT2 (i := 72) rfl) rfl)⟩
theorem pL_9_1 : PL 9 (26, 22, 0, 386, 387, 0, 82, 388) := ⟨_, aA_22, fM_22, fC_22, fS_22, (gW (gT2 (i := 75) rfl) rfl)⟩
theorem pL_9_2 : PL 9 (12, 49, 0, 485, 486, 0, 84, 487) := ⟨_, aA_49, fM_49, fC_49, fS_49, (gW (gT2 (i := 174) rfl) rfl)⟩
set_option maxRecDepth 100000 in
theorem pL_9 : ∀ e ∈ aLM9, PL 9 e := List.forall_mem_cons.mpr ⟨pL_9_0, List.forall_mem_cons.mpr ⟨pL_9_1, List.forall_mem_cons.mpr ⟨pL_9_2, fun _ h => absurd h List.not_mem_nil⟩⟩⟩
theorem pL_10_0 : PL 10 (40, 33, 2, 427, 428, 429, 79, 430) := ⟨_, aA_33, fM_33, fC_33, fV_33, (gW (gT2 (i := 116) rfl) rfl)⟩
theorem pL_10_1 : PL 10 (49, 35, 0, 436, 437, 0, 83, 438) := ⟨_, aA_35, fM_35, fC_35, fS_35, (gW (gT2 (i := 125) rfl) rfl)⟩
theorem pL_10_2 : PL 10 (53, 36, 0, 439, 440, 0, 83, 441) := ⟨_, aA_36, fM_36, fC_36, fS_36, (gW (gT2 (i := 128) rfl) rfl)⟩
theorem pL_10_3 : PL 10 (57, 37, 0, 442, 443, 0, 82, 444) := ⟨_, aA_37, fM_37, fC_37, fS_37, (gW (gT2 (i := 131) rfl) rfl)⟩
theorem pL_10_4 : PL 10 (64, 34, 2, 455, 432, 433, 79, 434) := ⟨_, aA_34, fM_34, fC_34, fV_34, (gW (gT2 (i := 144) rfl) rfl)⟩
theorem pL_10_5 : PL 10 (68, 41, 0, 456, 457, 0, 83, 458) := ⟨_, aA_41, fM_41, fC_41, fS_41, (gW (gT2 (i := 145) rfl) rfl)⟩
theorem pL_10_6 : PL 10 (77, 22, 0, 459, 387, 0, 82, 388) := ⟨_, aA_22, fM_22, fC_22, fS_22, (gW (gT2 (i := 148) rfl) rfl)⟩
theorem pL_10_7 : PL 10 (72, 42, 0, 460, 461, 0, 84, 462) := ⟨_, aA_42, fM_42, fC_42, fS_42, (gW (gT2 (i := 149) rfl) rfl)⟩
theorem pL_10_8 : PL 10 (81, 47, 2, 477, 478, 479, 78, 480) := ⟨_, aA_47, fM_47, fC_47, fV_47, (gW (gT2 (i := 166) rfl) rfl)⟩
theorem pL_10_9 : PL 10 (93, 48, 0, 482, 483, 0, 82, 484) := ⟨_, aA_48, fM_48, fC_48, fS_48, (gW (gT2 (i := 171) rfl) rfl)⟩
theorem pL_10_10 : PL 10 (97, 50, 0, 492, 493, 0, 82, 494) := ⟨_, aA_50, fM_50, fC_50, fS_50, (gW (gT2 (i := 181) rfl) rfl)⟩
theorem pL_10_11 : PL 10 (18, 20, 0, 691, 379, 0, 82, 380) := ⟨_, aA_20, fM_20, fC_20, fS_20, (gW (gT3 (i := 140) rfl) rfl)⟩
theorem pL_10_12 : PL 10 (24, 32, 0, 703, 425, 0, 83, 426) := ⟨_, aA_32, fM_32, fC_32, fS_32, (gW (gT3 (i := 152) rfl) rfl)⟩
theorem pL_10_13 : PL 10 (30, 40, 0, 704, 453, 0, 83, 454) := ⟨_, aA_40, fM_40, fC_40, fS_40, (gW (gT3 (i := 153) rfl) rfl)⟩
theorem pL_10_14 : PL 10 (33, 46, 0, 705, 475, 0, 83, 476) := ⟨_, aA_46, fM_46, fC_46, fS_46, (gW (gT3 (i := 154) rfl) rfl)⟩
theorem pL_10_15 : PL 10 (101, 121, 0, 830, 831, 0, 83, 832) := ⟨_, aA_121, fM_121, fC_121, fS_121, (gW (gT4 (i := 39) rfl) rfl)⟩
set_option maxRecDepth 100000 in
theorem pL_10 : ∀ e ∈ aLM10, PL 10 e := List.forall_mem_cons.mpr ⟨pL_10_0, List.forall_mem_cons.mpr ⟨pL_10_1, List.forall_mem_cons.mpr ⟨pL_10_2, List.forall_mem_cons.mpr ⟨pL_10_3, List.forall_mem_cons.mpr ⟨pL_10_4, List.forall_mem_cons.mpr ⟨pL_10_5, List.forall_mem_cons.mpr ⟨pL_10_6, List.forall_mem_cons.mpr ⟨pL_10_7, List.forall_mem_cons.mpr ⟨pL_10_8, List.forall_mem_cons.mpr ⟨pL_10_9, List.forall_mem_cons.mpr ⟨pL_10_10, List.forall_mem_cons.mpr ⟨pL_10_11, List.forall_mem_cons.mpr ⟨pL_10_12, List.forall_mem_cons.mpr ⟨pL_10_13, List.forall_mem_cons.mpr ⟨pL_10_14, List.forall_mem_cons.mpr ⟨pL_10_15, fun _ h => absurd h List.not_mem_nil⟩⟩⟩⟩⟩⟩⟩⟩⟩⟩⟩⟩⟩⟩⟩⟩
set_option maxRecDepth 100000 in
theorem pL_11 : ∀ e ∈ aLM11, PL 11 e := fun _ h => absurd h List.not_mem_nil
theorem pL_12_0 : PL 12 (335, 75, 2, 602, 603, 604, 86, 605) := ⟨_, aA_75, fM_75, fC_75, fV_75, (gW (gT3 (i := 51) rfl) rfl)⟩
theorem pL_12_1 : PL 12 (492, 77, 2, 612, 613, 614, 86, 615) := ⟨_, aA_77, fM_77, fC_77, fV_77, (gW (gT3 (i := 61) rfl) rfl)⟩
theorem pL_12_2 : PL 12 (495, 78, 0, 616, 617, 0, 87, 618) := ⟨_, aA_78, fM_78, fC_78, fS_78, (gW (gT3 (i := 65) rfl) rfl)⟩
theorem pL_12_3 : PL 12 (1059, 80, 0, 624, 625, 0, 88, 626) := ⟨_, aA_80, fM_80, fC_80, fS_80, (gW (gT3 (i := 73) rfl) rfl)⟩
set_option maxRecDepth 100000 in
theorem pL_12 : ∀ e ∈ aLM12, PL 12 e := List.forall_mem_cons.mpr ⟨pL_12_0, List.forall_mem_cons.mpr ⟨pL_12_1, List.forall_mem_cons.mpr ⟨pL_12_2, List.forall_mem_cons.mpr ⟨pL_12_3, fun _ h => absurd h List.not_mem_nil⟩⟩⟩⟩
theorem pL_13_0 : PL 13 (9, 79, 0, 619, 620, 0, 86, 621) := ⟨_, aA_79, fM_79, fC_79, fS_79, (gW (gT3 (i := 68) rfl) rfl)⟩
set_option maxRecDepth 100000 in
theorem pL_13 : ∀ e ∈ aLM13, PL 13 e := List.forall_mem_cons.mpr ⟨pL_13_0, fun _ h => absurd h List.not_mem_nil⟩
set_option maxRecDepth 100000 in
theorem pL_14 : ∀ e ∈ aLM14, PL 14 e := fun _ h => absurd h List.not_mem_nil
set_option maxRecDepth 100000 in
theorem pL_15 : ∀ e ∈ aLM15, PL 15 e := fun _ h => absurd h List.not_mem_nil
theorem pL_16_0 : PL 16 (47, 0, 9, 1017, 97, 0, 0, 0) := ⟨(gW (gT4 (i := 226) rfl) rfl), (gW (gT1 (i := 26) rfl) rfl)⟩
theorem pL_16_1 : PL 16 (11, 162, 0, 1129, 1130, 0, 81, 1131) := ⟨_, aA_162, fM_162, fC_162, fS_162, (gW (gT5 (i := 98) rfl) rfl)⟩
theorem pL_16_2 : PL 16 (226, 163, 0, 1132, 1133, 0, 81, 1134) := ⟨_, aA_163, fM_163, fC_163, fS_163, (gW (gT5 (i := 101) rfl) rfl)⟩
theorem pL_16_3 : PL 16 (201, 164, 2, 1137, 1139, 24, 81, 1140) := ⟨_, aA_164, fM_164, fC_164, fV_164, (gW (gT5 (i := 106) rfl) rfl)⟩
theorem pL_16_4 : PL 16 (197, 165, 2, 1141, 1143, 25, 81, 1144) := ⟨_, aA_165, fM_165, fC_165, fV_165, (gW (gT5 (i := 110) rfl) rfl)⟩
theorem pL_16_5 : PL 16 (164, 166, 0, 1145, 1146, 0, 81, 1147) := ⟨_, aA_166, fM_166, fC_166, fS_166, (gW (gT5 (i := 114) rfl) rfl)⟩
theorem pL_16_6 : PL 16 (168, 167, 0, 1148, 1149, 0, 81, 1150) := ⟨_, aA_167, fM_167, fC_167, fS_167, (gW (gT5 (i := 117) rfl) rfl)⟩
theorem pL_16_7 : PL 16 (172, 168, 2, 1151, 1153, 26, 81, 1154) := ⟨_, aA_168, fM_168, fC_168, fV_168, (gW (gT5 (i := 120) rfl) rfl)⟩
theorem pL_16_8 : PL 16 (132, 169, 2, 1155, 1157, 27, 81, 1158) := ⟨_, aA_169, fM_169, fC_169, fV_169, (gW (gT5 (i := 124) rfl) rfl)⟩
theorem pL_16_9 : PL 16 (176, 170, 2, 1159, 1161, 28, 81, 1162) := ⟨_, aA_170, fM_170, fC_170, fV_170, (gW (gT5 (i := 128) rfl) rfl)⟩
theorem pL_16_10 : PL 16 (142, 171, 2, 1163, 1165, 29, 81, 1166) := ⟨_, aA_171, fM_171, fC_171, fV_171, (gW (gT5 (i := 132) rfl) rfl)⟩
theorem pL_16_11 : PL 16 (128, 172, 2, 1167, 1169, 30, 81, 1170) := ⟨_, aA_172, fM_172, fC_172, fV_172, (gW (gT5 (i := 136) rfl) rfl)⟩
theorem pL_16_12 : PL 16 (146, 173, 2, 1172, 1174, 31, 81, 1175) := ⟨_, aA_173, fM_173, fC_173, fV_173, (gW (gT5 (i := 141) rfl) rfl)⟩
theorem pL_16_13 : PL 16 (180, 174, 2, 1176, 1178, 32, 81, 1179) := ⟨_, aA_174, fM_174, fC_174, fV_174, (gW (gT5 (i := 145) rfl) rfl)⟩
theorem pL_16_14 : PL 16 (149, 175, 0, 1180, 1181, 0, 81, 1182) := ⟨_, aA_175, fM_175, fC_175, fS_175, (gW (gT5 (i := 149) rfl) rfl)⟩
theorem pL_16_15 : PL 16 (136, 176, 0, 1183, 1184, 0, 81, 1185) := ⟨_, aA_176, fM_176, fC_176, fS_176, (gW (gT5 (i := 152) rfl) rfl)⟩
theorem pL_16_16 : PL 16 (183, 177, 0, 1187, 1188, 0, 81, 1189) := ⟨_, aA_177, fM_177, fC_177, fS_177, (gW (gT5 (i := 156) rfl) rfl)⟩
theorem pL_16_17 : PL 16 (152, 178, 0, 1190, 1191, 0, 81, 1192) := ⟨_, aA_178, fM_178, fC_178, fS_178, (gW (gT5 (i := 159) rfl) rfl)⟩
theorem pL_16_18 : PL 16 (187, 179, 0, 1193, 1194, 0, 81, 1195) := ⟨_, aA_179, fM_179, fC_179, fS_179, (gW (gT5 (i := 162) rfl) rfl)⟩
theorem pL_16_19 : PL 16 (190, 180, 0, 1196, 1197, 0, 81, 1198) := ⟨_, aA_180, fM_180, fC_180, fS_180, (gW (gT5 (i := 165) rfl) rfl)⟩
theorem pL_16_20 : PL 16 (193, 181, 2, 1199, 1201, 33, 81, 1202) := ⟨_, aA_181, fM_181, fC_181, fV_181, (gW (gT5 (i := 168) rfl) rfl)⟩
theorem pL_16_21 : PL 16 (156, 182, 0, 1203, 1204, 0, 81, 1205) := ⟨_, aA_182, fM_182, fC_182, fS_182, (gW (gT5 (i := 172) rfl) rfl)⟩
theorem pL_16_22 : PL 16 (160, 183, 2, 1209, 1211, 34, 81, 1212) := ⟨_, aA_183, fM_183, fC_183, fV_183, (gW (gT5 (i := 178) rfl) rfl)⟩
theorem pL_16_23 : PL 16 (33, 184, 2, 1213, 1215, 35, 81, 1216) := ⟨_, aA_184, fM_184, fC_184, fV_184, (gW (gT5 (i := 182) rfl) rfl)⟩
theorem pL_16_24 : PL 16 (229, 185, 2, 1217, 1219, 36, 81, 1220) := ⟨_, aA_185, fM_185, fC_185, fV_185, (gW (gT5 (i := 186) rfl) rfl)⟩
theorem pL_16_25 : PL 16 (115, 186, 2, 1221, 1223, 37, 81, 1224) := ⟨_, aA_186, fM_186, fC_186, fV_186, (gW (gT5 (i := 190) rfl) rfl)⟩
theorem pL_16_26 : PL 16 (216, 187, 2, 1225, 1227, 38, 81, 1228) := ⟨_, aA_187, fM_187, fC_187, fV_187, (gW (gT5 (i := 194) rfl) rfl)⟩
theorem pL_16_27 : PL 16 (204, 188, 2, 1229, 1231, 39, 81, 1232) := ⟨_, aA_188, fM_188, fC_188, fV_188, (gW (gT5 (i := 198) rfl) rfl)⟩
theorem pL_16_28 : PL 16 (208, 189, 2, 1233, 1235, 40, 81, 1236) := ⟨_, aA_189, fM_189, fC_189, fV_189, (gW (gT5 (i := 202) rfl) rfl)⟩
theorem pL_16_29 : PL 16 (123, 190, 2, 1237, 1239, 41, 81, 1240) := ⟨_, aA_190, fM_190, fC_190, fV_190, (gW (gT5 (i := 206) rfl) rfl)⟩
theorem pL_16_30 : PL 16 (119, 191, 2, 1241, 1243, 42, 81, 1244) := ⟨_, aA_191, fM_191, fC_191, fV_191, (gW (gT5 (i := 210) rfl) rfl)⟩
theorem pL_16_31 : PL 16 (212, 192, 2, 1245, 1247, 43, 81, 1248) := ⟨_, aA_192, fM_192, fC_192, fV_192, (gW (gT5 (i := 214) rfl) rfl)⟩
theorem pL_16_32 : PL 16 (220, 193, 2, 1249, 1251, 44, 81, 1252) := ⟨_, aA_193, fM_193, fC_193, fV_193, (gW (gT5 (i := 218) rfl) rfl)⟩
theorem pL_16_33 : PL 16 (223, 194, 2, 1253, 1255, 45, 81, 1256) := ⟨_, aA_194, fM_194, fC_194, fV_194, (gW (gT5 (i := 222) rfl) rfl)⟩
theorem pL_16_34 : PL 16 (233, 195, 2, 1257, 1259, 46, 81, 1260) := ⟨_, aA_195, fM_195, fC_195, fV_195, (gW (gT5 (i := 226) rfl) rfl)⟩
theorem pL_16_35 : PL 16 (237, 196, 2, 1261, 1263, 47, 81, 1264) := ⟨_, aA_196, fM_196, fC_196, fV_196, (gW (gT5 (i := 230) rfl) rfl)⟩
theorem pL_16_36 : PL 16 (240, 198, 2, 1269, 1271, 48, 81, 1272) := ⟨_, aA_198, fM_198, fC_198, fV_198, (gW (gT5 (i := 238) rfl) rfl)⟩
theorem pL_16_37 : PL 16 (243, 199, 2, 1281, 1274, 1275, 81, 1276) := ⟨_, aA_199, fM_199, fC_199, fV_199, (gW (gT6 (i := 10) rfl) rfl)⟩
theorem pL_16_38 : PL 16 (293, 204, 2, 1294, 1296, 49, 81, 1297) := ⟨_, aA_204, fM_204, fC_204, fV_204, (gW (gT6 (i := 23) rfl) rfl)⟩
theorem pL_16_39 : PL 16 (272, 205, 2, 1298, 1300, 50, 81, 1301) := ⟨_, aA_205, fM_205, fC_205, fV_205, (gW (gT6 (i := 27) rfl) rfl)⟩
theorem pL_16_40 : PL 16 (275, 206, 2, 1304, 1306, 51, 81, 1307) := ⟨_, aA_206, fM_206, fC_206, fV_206, (gW (gT6 (i := 33) rfl) rfl)⟩
theorem pL_16_41 : PL 16 (257, 207, 2, 1308, 1310, 52, 81, 1311) := ⟨_, aA_207, fM_207, fC_207, fV_207, (gW (gT6 (i := 37) rfl) rfl)⟩
theorem pL_16_42 : PL 16 (278, 208, 2, 1312, 1314, 53, 81, 1315) := ⟨_, aA_208, fM_208, fC_208, fV_208, (gW (gT6 (i := 41) rfl) rfl)⟩
theorem pL_16_43 : PL 16 (312, 209, 2, 1319, 1321, 54, 81, 1322) := ⟨_, aA_209, fM_209, fC_209, fV_209, (gW (gT6 (i := 48) rfl) rfl)⟩
theorem pL_16_44 : PL 16 (290, 210, 2, 1323, 1325, 55, 81, 1326) := ⟨_, aA_210, fM_210, fC_210, fV_210, (gW (gT6 (i := 52) rfl) rfl)⟩
theorem pL_16_45 : PL 16 (297, 211, 2, 1328, 1330, 56, 81, 1331) := ⟨_, aA_211, fM_211, fC_211, fV_211, (gW (gT6 (i := 57) rfl) rfl)⟩
theorem pL_16_46 : PL 16 (300, 212, 2, 1332, 1334, 57, 81, 1335) := ⟨_, aA_212, fM_212, fC_212, fV_212, (gW (gT6 (i := 61) rfl) rfl)⟩
theorem pL_16_47 : PL 16 (303, 213, 0, 1336, 1337, 0, 81, 1338) := ⟨_, aA_213, fM_213, fC_213, fS_213, (gW (gT6 (i := 65) rfl) rfl)⟩
theorem pL_16_48 : PL 16 (306, 214, 2, 1339, 1341, 58, 81, 1342) := ⟨_, aA_214, fM_214, fC_214, fV_214, (gW (gT6 (i := 68) rfl) rfl)⟩
theorem pL_16_49 : PL 16 (309, 215, 2, 1343, 1345, 59, 81, 1346) := ⟨_, aA_215, fM_215, fC_215, fV_215, (gW (gT6 (i := 72) rfl) rfl)⟩
theorem pL_16_50 : PL 16 (327, 217, 2, 1351, 1353, 60, 81, 1354) := ⟨_, aA_217, fM_217, fC_217, fV_217, (gW (gT6 (i := 80) rfl) rfl)⟩
theorem pL_16_51 : PL 16 (321, 218, 2, 1355, 1357, 61, 81, 1358) := ⟨_, aA_218, fM_218, fC_218, fV_218, (gW (gT6 (i := 84) rfl) rfl)⟩
theorem pL_16_52 : PL 16 (318, 219, 2, 1359, 1361, 62, 81, 1362) := ⟨_, aA_219, fM_219, fC_219, fV_219, (gW (gT6 (i := 88) rfl) rfl)⟩
theorem pL_16_53 : PL 16 (324, 220, 2, 1363, 1365, 63, 81, 1366) := ⟨_, aA_220, fM_220, fC_220, fV_220, (gW (gT6 (i := 92) rfl) rfl)⟩
theorem pL_16_54 : PL 16 (336, 223, 2, 1376, 1378, 64, 81, 1379) := ⟨_, aA_223, fM_223, fC_223, fV_223, (gW (gT6 (i := 105) rfl) rfl)⟩
theorem pL_16_55 : PL 16 (340, 224, 0, 1380, 1381, 0, 81, 1382) := ⟨_, aA_224, fM_224, fC_224, fS_224, (gW (gT6 (i := 109) rfl) rfl)⟩
theorem pL_16_56 : PL 16 (343, 227, 2, 1393, 1395, 65, 81, 1396) := ⟨_, aA_227, fM_227, fC_227, fV_227, (gW (gT6 (i := 122) rfl) rfl)⟩
theorem pL_16_57 : PL 16 (346, 229, 2, 1401, 1403, 66, 81, 1404) := ⟨_, aA_229, fM_229, fC_229, fV_229, (gW (gT6 (i := 130) rfl) rfl)⟩
theorem pL_16_58 : PL 16 (349, 230, 0, 1405, 1406, 0, 81, 1407) := ⟨_, aA_230, fM_230, fC_230, fS_230, (gW (gT6 (i := 134) rfl) rfl)⟩
theorem pL_16_59 : PL 16 (353, 231, 2, 1408, 1410, 67, 81, 1411) := ⟨_, aA_231, fM_231, fC_231, fV_231, (gW (gT6 (i := 137) rfl) rfl)⟩
theorem pL_16_60 : PL 16 (363, 239, 2, 1442, 1444, 68, 81, 1445) := ⟨_, aA_239, fM_239, fC_239, fV_239, (gW (gT6 (i := 171) rfl) rfl)⟩
theorem pL_16_61 : PL 16 (366, 242, 2, 1454, 1456, 69, 81, 1457) := ⟨_, aA_242, fM_242, fC_242, fV_242, (gW (gT6 (i := 183) rfl) rfl)⟩
theorem pL_16_62 : PL 16 (356, 243, 0, 1458, 1459, 0, 81, 1460) := ⟨_, aA_243, fM_243, fC_243, fS_243, (gW (gT6 (i := 187) rfl) rfl)⟩
theorem pL_16_63 : PL 16 (371, 251, 2, 1490, 1492, 70, 81, 1493) := ⟨_, aA_251, fM_251, fC_251, fV_251, (gW (gT6 (i := 219) rfl) rfl)⟩
theorem pL_16_64 : PL 16 (374, 256, 0, 1510, 1511, 0, 81, 1512) := ⟨_, aA_256, fM_256, fC_256, fS_256, (gW (gT6 (i := 239) rfl) rfl)⟩
theorem pL_16_65 : PL 16 (377, 257, 0, 1513, 1514, 0, 81, 1515) := ⟨_, aA_257, fM_257, fC_257, fS_257, (gW (gT7 (i := 2) rfl) rfl)⟩
set_option maxRecDepth 100000 in
theorem pL_16 : ∀ e ∈ aLM16, PL 16 e := List.forall_mem_cons.mpr ⟨pL_16_0, List.forall_mem_cons.mpr ⟨pL_16_1, List.forall_mem_cons.mpr ⟨pL_16_2, List.forall_mem_cons.mpr ⟨pL_16_3, List.forall_mem_cons.mpr ⟨pL_16_4, List.forall_mem_cons.mpr ⟨pL_16_5, List.forall_mem_cons.mpr ⟨pL_16_6, List.forall_mem_cons.mpr ⟨pL_16_7, List.forall_mem_cons.mpr ⟨pL_16_8, List.forall_mem_cons.mpr ⟨pL_16_9, List.forall_mem_cons.mpr ⟨pL_16_10, List.forall_mem_cons.mpr ⟨pL_16_11, List.forall_mem_cons.mpr ⟨pL_16_12, List.forall_mem_cons.mpr ⟨pL_16_13, List.forall_mem_cons.mpr ⟨pL_16_14, List.forall_mem_cons.mpr ⟨pL_16_15, List.forall_mem_cons.mpr ⟨pL_16_16, List.forall_mem_cons.mpr ⟨pL_16_17, List.forall_mem_cons.mpr ⟨pL_16_18, List.forall_mem_cons.mpr ⟨pL_16_19, List.forall_mem_cons.mpr ⟨pL_16_20, List.forall_mem_cons.mpr ⟨pL_16_21, List.forall_mem_cons.mpr ⟨pL_16_22, List.forall_mem_cons.mpr ⟨pL_16_23, List.forall_mem_cons.mpr ⟨pL_16_24, List.forall_mem_cons.mpr ⟨pL_16_25, List.forall_mem_cons.mpr ⟨pL_16_26, List.forall_mem_cons.mpr ⟨pL_16_27, List.forall_mem_cons.mpr ⟨pL_16_28, List.forall_mem_cons.mpr ⟨pL_16_29, List.forall_mem_cons.mpr ⟨pL_16_30, List.forall_mem_cons.mpr ⟨pL_16_31, List.forall_mem_cons.mpr ⟨pL_16_32, List.forall_mem_cons.mpr ⟨pL_16_33, List.forall_mem_cons.mpr ⟨pL_16_34, List.forall_mem_cons.mpr ⟨pL_16_35, List.forall_mem_cons.mpr ⟨pL_16_36, List.forall_mem_cons.mpr ⟨pL_16_37, List.forall_mem_cons.mpr ⟨pL_16_38, List.forall_mem_cons.mpr ⟨pL_16_39, List.forall_mem_cons.mpr ⟨pL_16_40, List.forall_mem_cons.mpr ⟨pL_16_41, List.forall_mem_cons.mpr ⟨pL_16_42, List.forall_mem_cons.mpr ⟨pL_16_43, List.forall_mem_cons.mpr ⟨pL_16_44, List.forall_mem_cons.mpr ⟨pL_16_45, List.forall_mem_cons.mpr ⟨pL_16_46, List.forall_mem_cons.mpr ⟨pL_16_47, List.forall_mem_cons.mpr ⟨pL_16_48, List.forall_mem_cons.mpr ⟨pL_16_49, List.forall_mem_cons.mpr ⟨pL_16_50, List.forall_mem_cons.mpr ⟨pL_16_51, List.forall_mem_cons.mpr ⟨pL_16_52, List.forall_mem_cons.mpr ⟨pL_16_53, List.forall_mem_cons.mpr ⟨pL_16_54, List.forall_mem_cons.mpr ⟨pL_16_55, List.forall_mem_cons.mpr ⟨pL_16_56, List.forall_mem_cons.mpr ⟨pL_16_57, List.forall_mem_cons.mpr ⟨pL_16_58, List.forall_mem_cons.mpr ⟨pL_16_59, List.forall_mem_cons.mpr ⟨pL_16_60, List.forall_mem_cons.mpr ⟨pL_16_61, List.forall_mem_cons.mpr ⟨pL_16_62, List.forall_mem_cons.mpr ⟨pL_16_63, List.forall_mem_cons.mpr ⟨pL_16_64, List.forall_mem_cons.mpr ⟨pL_16_65, fun _ h => absurd h List.not_mem_nil⟩⟩⟩⟩⟩⟩⟩⟩⟩⟩⟩⟩⟩⟩⟩⟩⟩⟩⟩⟩⟩⟩⟩⟩⟩⟩⟩⟩⟩⟩⟩⟩⟩⟩⟩⟩⟩⟩⟩⟩⟩⟩⟩⟩⟩⟩⟩⟩⟩⟩⟩⟩⟩⟩⟩⟩⟩⟩⟩⟩⟩⟩⟩⟩⟩⟩
theorem pL_17_0 : PL 17 (9, 0, 4, 93, 94, 0, 72, 95) := ⟨_, aA_0, fM_0, fC_0, fI_0, (gW (gT1 (i := 22) rfl) rfl)⟩
theorem pL_17_1 : PL 17 (13, 9, 2, 334, 335, 336, 72, 337) := ⟨_, aA_9, fM_9, fC_9, fV_9, (gW (gT2 (i := 23) rfl) rfl)⟩
theorem pL_17_2 : PL 17 (18, 62, 2, 547, 548, 549, 72, 550) := ⟨_, aA_62, fM_62, fC_62, fV_62, (gW (gT2 (i := 236) rfl) rfl)⟩
theorem pL_17_3 : PL 17 (23, 65, 2, 559, 560, 561, 72, 562) := ⟨_, aA_65, fM_65, fC_65, fV_65, (gW (gT3 (i := 8) rfl) rfl)⟩
theorem pL_17_4 : PL 17 (28, 66, 2, 563, 564, 565, 72, 566) := ⟨_, aA_66, fM_66, fC_66, fV_66, (gW (gT3 (i := 12) rfl) rfl)⟩
theorem pL_17_5 : PL 17 (33, 93, 2, 707, 708, 709, 72, 710) := ⟨_, aA_93, fM_93, fC_93, fV_93, (gW (gT3 (i := 156) rfl) rfl)⟩
theorem pL_17_6 : PL 17 (38, 95, 2, 716, 717, 718, 72, 719) := ⟨_, aA_95, fM_95, fC_95, fV_95, (gW (gT3 (i := 165) rfl) rfl)⟩
theorem pL_17_7 : PL 17 (43, 100, 2, 739, 740, 741, 72, 742) := ⟨_, aA_100, fM_100, fC_100, fV_100, (gW (gT3 (i := 188) rfl) rfl)⟩
theorem pL_17_8 : PL 17 (48, 102, 2, 748, 749, 750, 72, 751) := ⟨_, aA_102, fM_102, fC_102, fV_102, (gW (gT3 (i := 197) rfl) rfl)⟩
theorem pL_17_9 : PL 17 (52, 105, 2, 761, 762, 763, 72, 764) := ⟨_, aA_105, fM_105, fC_105, fV_105, (gW (gT3 (i := 210) rfl) rfl)⟩
theorem pL_17_10 : PL 17 (56, 108, 2, 774, 775, 776, 72, 777) := ⟨_, aA_108, fM_108, fC_108, fV_108, (gW (gT3 (i := 223) rfl) rfl)⟩
theorem pL_17_11 : PL 17 (60, 110, 2, 783, 784, 785, 72, 786) := ⟨_, aA_110, fM_110, fC_110, fV_110, (gW (gT3 (i := 232) rfl) rfl)⟩
theorem pL_17_12 : PL 17 (64, 111, 2, 788, 789, 790, 72, 791) := ⟨_, aA_111, fM_111, fC_111, fV_111, (gW (gT3 (i := 237) rfl) rfl)⟩
theorem pL_17_13 : PL 17 (68, 112, 2, 792, 793, 794, 72, 795) := ⟨_, aA_112, fM_112, fC_112, fV_112, (gW (gT4 (i := 1) rfl) rfl)⟩
theorem pL_17_14 : PL 17 (72, 113, 2, 796, 797, 798, 72, 799) := ⟨_, aA_113, fM_113, fC_113, fV_113, (gW (gT4 (i := 5) rfl) rfl)⟩
theorem pL_17_15 : PL 17 (77, 114, 2, 801, 802, 803, 72, 804) := ⟨_, aA_114, fM_114, fC_114, fV_114, (gW (gT4 (i := 10) rfl) rfl)⟩
theorem pL_17_16 : PL 17 (82, 115, 2, 805, 806, 807, 72, 808) := ⟨_, aA_115, fM_115, fC_115, fV_115, (gW (gT4 (i := 14) rfl) rfl)⟩
theorem pL_17_17 : PL 17 (87, 116, 2, 811, 812, 813, 72, 814) := ⟨_, aA_116, fM_116, fC_116, fV_116, (gW (gT4 (i := 20) rfl) rfl)⟩
theorem pL_17_18 : PL 17 (91, 117, 2, 815, 816, 817, 72, 818) := ⟨_, aA_117, fM_117, fC_117, fV_117, (gW (gT4 (i := 24) rfl) rfl)⟩
theorem pL_17_19 : PL 17 (95, 119, 2, 823, 824, 825, 72, 826) := ⟨_, aA_119, fM_119, fC_119, fV_119, (gW (gT4 (i := 32) rfl) rfl)⟩
theorem pL_17_20 : PL 17 (99, 122, 2, 833, 834, 835, 72, 836) := ⟨_, aA_122, fM_122, fC_122, fV_122, (gW (gT4 (i := 42) rfl) rfl)⟩
theorem pL_17_21 : PL 17 (103, 124, 2, 840, 841, 842, 72, 843) := ⟨_, aA_124, fM_124, fC_124, fV_124, (gW (gT4 (i := 49) rfl) rfl)⟩
theorem pL_17_22 : PL 17 (108, 125, 2, 844, 845, 846, 72, 847) := ⟨_, aA_125, fM_125, fC_125, fV_125, (gW (gT4 (i := 53) rfl) rfl)⟩
theorem pL_17_23 : PL 17 (112, 132, 2, 883, 884, 885, 72, 886) := ⟨_, aA_132, fM_132, fC_132, fV_132, (gW (gT4 (i := 92) rfl) rfl)⟩
theorem pL_17_24 : PL 17 (116, 133, 2, 888, 889, 890, 72, 891) := ⟨_, aA_133, fM_133, fC_133, fV_133, (gW (gT4 (i := 97) rfl) rfl)⟩
theorem pL_17_25 : PL 17 (120, 134, 2, 893, 894, 895, 72, 896) := ⟨_, aA_134, fM_134, fC_134, fV_134, (gW (gT4 (i := 102) rfl) rfl)⟩
theorem pL_17_26 : PL 17 (124, 135, 2, 898, 899, 900, 72, 901) := ⟨_, aA_135, fM_135, fC_135, fV_135, (gW (gT4 (i := 107) rfl) rfl)⟩
theorem pL_17_27 : PL 17 (128, 136, 2, 903, 904, 905, 72, 906) := ⟨_, aA_136, fM_136, fC_136, fV_136, (gW (gT4 (i := 112) rfl) rfl)⟩
theorem pL_17_28 : PL 17 (132, 137, 2, 908, 909, 910, 72, 911) := ⟨_, aA_137, fM_137, fC_137, fV_137, (gW (gT4 (i := 117) rfl) rfl)⟩
theorem pL_17_29 : PL 17 (136, 138, 2, 914, 915, 916, 72, 917) := ⟨_, aA_138, fM_138, fC_138, fV_138, (gW (gT4 (i := 123) rfl) rfl)⟩
theorem pL_17_30 : PL 17 (140, 140, 2, 922, 923, 924, 72, 925) := ⟨_, aA_140, fM_140, fC_140, fV_140, (gW (gT4 (i := 131) rfl) rfl)⟩
theorem pL_17_31 : PL 17 (144, 141, 2, 926, 927, 928, 72, 929) := ⟨_, aA_141, fM_141, fC_141, fV_141, (gW (gT4 (i := 135) rfl) rfl)⟩
theorem pL_17_32 : PL 17 (148, 143, 2, 935, 936, 937, 72, 938) := ⟨_, aA_143, fM_143, fC_143, fV_143, (gW (gT4 (i := 144) rfl) rfl)⟩
theorem pL_17_33 : PL 17 (152, 144, 2, 940, 941, 942, 72, 943) := ⟨_, aA_144, fM_144, fC_144, fV_144, (gW (gT4 (i := 149) rfl) rfl)⟩
theorem pL_17_34 : PL 17 (156, 146, 2, 948, 949, 950, 72, 951) := ⟨_, aA_146, fM_146, fC_146, fV_146, (gW (gT4 (i := 157) rfl) rfl)⟩
theorem pL_17_35 : PL 17 (160, 147, 2, 952, 953, 954, 72, 955) := ⟨_, aA_147, fM_147, fC_147, fV_147, (gW (gT4 (i := 161) rfl) rfl)⟩
theorem pL_17_36 : PL 17 (164, 148, 2, 957, 958, 959, 72, 960) := ⟨_, aA_148, fM_148, fC_148, fV_148, (gW (gT4 (i := 166) rfl) rfl)⟩
theorem pL_17_37 : PL 17 (168, 151, 2, 971, 972, 973, 72, 974) := ⟨_, aA_151, fM_151, fC_151, fV_151, (gW (gT4 (i := 180) rfl) rfl)⟩
theorem pL_17_38 : PL 17 (172, 152, 2, 976, 977, 978, 72, 979) := ⟨_, aA_152, fM_152, fC_152, fV_152, (gW (gT4 (i := 185) rfl) rfl)⟩
theorem pL_17_39 : PL 17 (177, 153, 2, 981, 982, 983, 72, 984) := ⟨_, aA_153, fM_153, fC_153, fV_153, (gW (gT4 (i := 190) rfl) rfl)⟩
theorem pL_17_40 : PL 17 (181, 154, 2, 985, 986, 987, 72, 988) := ⟨_, aA_154, fM_154, fC_154, fV_154, (gW (gT4 (i := 194) rfl) rfl)⟩
theorem pL_17_41 : PL 17 (12, 160, 4, 1014, 1015, 0, 81, 1016) := ⟨_, aA_160, fM_160, fC_160, fI_160, (gW (gT4 (i := 223) rfl) rfl)⟩
theorem pL_17_42 : PL 17 (17, 161, 2, 1124, 1125, 1126, 81, 1127) := ⟨_, aA_161, fM_161, fC_161, fV_161, (gW (gT5 (i := 93) rfl) rfl)⟩
theorem pL_17_43 : PL 17 (55, 197, 2, 1265, 1266, 1267, 81, 1268) := ⟨_, aA_197, fM_197, fC_197, fV_197, (gW (gT5 (i := 234) rfl) rfl)⟩
theorem pL_17_44 : PL 17 (127, 199, 2, 1273, 1274, 1275, 81, 1276) := ⟨_, aA_199, fM_199, fC_199, fV_199, (gW (gT6 (i := 2) rfl) rfl)⟩
theorem pL_17_45 : PL 17 (131, 200, 2, 1277, 1278, 1279, 81, 1280) := ⟨_, aA_200, fM_200, fC_200, fV_200, (gW (gT6 (i := 6) rfl) rfl)⟩
theorem pL_17_46 : PL 17 (22, 201, 2, 1282, 1283, 1284, 81, 1285) := ⟨_, aA_201, fM_201, fC_201, fV_201, (gW (gT6 (i := 11) rfl) rfl)⟩
theorem pL_17_47 : PL 17 (27, 202, 2, 1286, 1287, 1288, 81, 1289) := ⟨_, aA_202, fM_202, fC_202, fV_202, (gW (gT6 (i := 15) rfl) rfl)⟩
theorem pL_17_48 : PL 17 (32, 203, 2, 1290, 1291, 1292, 81, 1293) := ⟨_, aA_203, fM_203, fC_203, fV_203, (gW (gT6 (i := 19) rfl) rfl)⟩
theorem pL_17_49 : PL 17 (111, 216, 2, 1347, 1348, 1349, 81, 1350) := ⟨_, aA_216, fM_216, fC_216, fV_216, (gW (gT6 (i := 76) rfl) rfl)⟩
theorem pL_17_50 : PL 17 (37, 221, 2, 1367, 1368, 1369, 81, 1370) := ⟨_, aA_221, fM_221, fC_221, fV_221, (gW (gT6 (i := 96) rfl) rfl)⟩
theorem pL_17_51 : PL 17 (42, 222, 2, 1372, 1373, 1374, 81, 1375) := ⟨_, aA_222, fM_222, fC_222, fV_222, (gW (gT6 (i := 101) rfl) rfl)⟩
theorem pL_17_52 : PL 17 (47, 225, 2, 1385, 1386, 1387, 81, 1388) := ⟨_, aA_225, fM_225, fC_225, fV_225, (gW (gT6 (i := 114) rfl) rfl)⟩
theorem pL_17_53 : PL 17 (51, 226, 2, 1389, 1390, 1391, 81, 1392) := ⟨_, aA_226, fM_226, fC_226, fV_226, (gW (gT6 (i := 118) rfl) rfl)⟩
theorem pL_17_54 : PL 17 (59, 228, 2, 1397, 1398, 1399, 81, 1400) := ⟨_, aA_228, fM_228, fC_228, fV_228, (gW (gT6 (i := 126) rfl) rfl)⟩
theorem pL_17_55 : PL 17 (63, 232, 2, 1412, 1413, 1414, 81, 1415) := ⟨_, aA_232, fM_232, fC_232, fV_232, (gW (gT6 (i := 141) rfl) rfl)⟩
theorem pL_17_56 : PL 17 (67, 233, 2, 1416, 1417, 1418, 81, 1419) := ⟨_, aA_233, fM_233, fC_233, fV_233, (gW (gT6 (i := 145) rfl) rfl)⟩
theorem pL_17_57 : PL 17 (71, 234, 2, 1420, 1421, 1422, 81, 1423) := ⟨_, aA_234, fM_234, fC_234, fV_234, (gW (gT6 (i := 149) rfl) rfl)⟩
theorem pL_17_58 : PL 17 (76, 235, 2, 1424, 1425, 1426, 81, 1427) := ⟨_, aA_235, fM_235, fC_235, fV_235, (gW (gT6 (i := 153) rfl) rfl)⟩
theorem pL_17_59 : PL 17 (81, 236, 2, 1428, 1429, 1430, 81, 1431) := ⟨_, aA_236, fM_236, fC_236, fV_236, (gW (gT6 (i := 157) rfl) rfl)⟩
theorem pL_17_60 : PL 17 (86, 237, 2, 1432, 1433, 1434, 81, 1435) := ⟨_, aA_237, fM_237, fC_237, fV_237, (gW (gT6 (i := 161) rfl) rfl)⟩
theorem pL_17_61 : PL 17 (90, 238, 2, 1438, 1439, 1440, 81, 1441) := ⟨_, aA_238, fM_238, fC_238, fV_238, (gW (gT6 (i := 167) rfl) rfl)⟩
theorem pL_17_62 : PL 17 (94, 240, 2, 1446, 1447, 1448, 81, 1449) := ⟨_, aA_240, fM_240, fC_240, fV_240, (gW (gT6 (i := 175) rfl) rfl)⟩
theorem pL_17_63 : PL 17 (98, 241, 2, 1450, 1451, 1452, 81, 1453) := ⟨_, aA_241, fM_241, fC_241, fV_241, (gW (gT6 (i := 179) rfl) rfl)⟩
theorem pL_17_64 : PL 17 (102, 244, 2, 1461, 1462, 1463, 81, 1464) := ⟨_, aA_244, fM_244, fC_244, fV_244, (gW (gT6 (i := 190) rfl) rfl)⟩
theorem pL_17_65 : PL 17 (107, 245, 2, 1465, 1466, 1467, 81, 1468) := ⟨_, aA_245, fM_245, fC_245, fV_245, (gW (gT6 (i := 194) rfl) rfl)⟩
theorem pL_17_66 : PL 17 (115, 246, 2, 1469, 1470, 1471, 81, 1472) := ⟨_, aA_246, fM_246, fC_246, fV_246, (gW (gT6 (i := 198) rfl) rfl)⟩
theorem pL_17_67 : PL 17 (119, 247, 2, 1473, 1474, 1475, 81, 1476) := ⟨_, aA_247, fM_247, fC_247, fV_247, (gW (gT6 (i := 202) rfl) rfl)⟩
theorem pL_17_68 : PL 17 (123, 248, 2, 1477, 1478, 1479, 81, 1480) := ⟨_, aA_248, fM_248, fC_248, fV_248, (gW (gT6 (i := 206) rfl) rfl)⟩
theorem pL_17_69 : PL 17 (135, 249, 2, 1481, 1482, 1483, 81, 1484) := ⟨_, aA_249, fM_249, fC_249, fV_249, (gW (gT6 (i := 210) rfl) rfl)⟩
theorem pL_17_70 : PL 17 (139, 250, 2, 1486, 1487, 1488, 81, 1489) := ⟨_, aA_250, fM_250, fC_250, fV_250, (gW (gT6 (i := 215) rfl) rfl)⟩
theorem pL_17_71 : PL 17 (143, 252, 2, 1494, 1495, 1496, 81, 1497) := ⟨_, aA_252, fM_252, fC_252, fV_252, (gW (gT6 (i := 223) rfl) rfl)⟩
theorem pL_17_72 : PL 17 (147, 253, 2, 1498, 1499, 1500, 81, 1501) := ⟨_, aA_253, fM_253, fC_253, fV_253, (gW (gT6 (i := 227) rfl) rfl)⟩
theorem pL_17_73 : PL 17 (151, 254, 2, 1502, 1503, 1504, 81, 1505) := ⟨_, aA_254, fM_254, fC_254, fV_254, (gW (gT6 (i := 231) rfl) rfl)⟩
theorem pL_17_74 : PL 17 (155, 255, 2, 1506, 1507, 1508, 81, 1509) := ⟨_, aA_255, fM_255, fC_255, fV_255, (gW (gT6 (i := 235) rfl) rfl)⟩
theorem pL_17_75 : PL 17 (159, 258, 2, 1516, 1517, 1518, 81, 1519) := ⟨_, aA_258, fM_258, fC_258, fV_258, (gW (gT7 (i := 5) rfl) rfl)⟩
theorem pL_17_76 : PL 17 (163, 259, 2, 1520, 1521, 1522, 81, 1523) := ⟨_, aA_259, fM_259, fC_259, fV_259, (gW (gT7 (i := 9) rfl) rfl)⟩
theorem pL_17_77 : PL 17 (167, 260, 2, 1524, 1525, 1526, 81, 1527) := ⟨_, aA_260, fM_260, fC_260, fV_260, (gW (gT7 (i := 13) rfl) rfl)⟩
theorem pL_17_78 : PL 17 (171, 261, 2, 1529, 1530, 1531, 81, 1532) := ⟨_, aA_261, fM_261, fC_261, fV_261, (gW (gT7 (i := 18) rfl) rfl)⟩
theorem pL_17_79 : PL 17 (176, 262, 2, 1533, 1534, 1535, 81, 1536) := ⟨_, aA_262, fM_262, fC_262, fV_262, (gW (gT7 (i := 22) rfl) rfl)⟩
theorem pL_17_80 : PL 17 (180, 263, 2, 1537, 1538, 1539, 81, 1540) := ⟨_, aA_263, fM_263, fC_263, fV_263, (gW (gT7 (i := 26) rfl) rfl)⟩
theorem pL_17_81 : PL 17 (184, 264, 2, 1541, 1542, 1543, 81, 1544) := ⟨_, aA_264, fM_264, fC_264, fV_264, (gW (gT7 (i := 30) rfl) rfl)⟩
set_option maxRecDepth 100000 in
theorem pL_17 : ∀ e ∈ aLM17, PL 17 e := List.forall_mem_cons.mpr ⟨pL_17_0, List.forall_mem_cons.mpr ⟨pL_17_1, List.forall_mem_cons.mpr ⟨pL_17_2, List.forall_mem_cons.mpr ⟨pL_17_3, List.forall_mem_cons.mpr ⟨pL_17_4, List.forall_mem_cons.mpr ⟨pL_17_5, List.forall_mem_cons.mpr ⟨pL_17_6, List.forall_mem_cons.mpr ⟨pL_17_7, List.forall_mem_cons.mpr ⟨pL_17_8, List.forall_mem_cons.mpr ⟨pL_17_9, List.forall_mem_cons.mpr ⟨pL_17_10, List.forall_mem_cons.mpr ⟨pL_17_11, List.forall_mem_cons.mpr ⟨pL_17_12, List.forall_mem_cons.mpr ⟨pL_17_13, List.forall_mem_cons.mpr ⟨pL_17_14, List.forall_mem_cons.mpr ⟨pL_17_15, List.forall_mem_cons.mpr ⟨pL_17_16, List.forall_mem_cons.mpr ⟨pL_17_17, List.forall_mem_cons.mpr ⟨pL_17_18, List.forall_mem_cons.mpr ⟨pL_17_19, List.forall_mem_cons.mpr ⟨pL_17_20, List.forall_mem_cons.mpr ⟨pL_17_21, List.forall_mem_cons.mpr ⟨pL_17_22, List.forall_mem_cons.mpr ⟨pL_17_23, List.forall_mem_cons.mpr ⟨pL_17_24, List.forall_mem_cons.mpr ⟨pL_17_25, List.forall_mem_cons.mpr ⟨pL_17_26, List.forall_mem_cons.mpr ⟨pL_17_27, List.forall_mem_cons.mpr ⟨pL_17_28, List.forall_mem_cons.mpr ⟨pL_17_29, List.forall_mem_cons.mpr ⟨pL_17_30, List.forall_mem_cons.mpr ⟨pL_17_31, List.forall_mem_cons.mpr ⟨pL_17_32, List.forall_mem_cons.mpr ⟨pL_17_33, List.forall_mem_cons.mpr ⟨pL_17_34, List.forall_mem_cons.mpr ⟨pL_17_35, List.forall_mem_cons.mpr ⟨pL_17_36, List.forall_mem_cons.mpr ⟨pL_17_37, List.forall_mem_cons.mpr ⟨pL_17_38, List.forall_mem_cons.mpr ⟨pL_17_39, List.forall_mem_cons.mpr ⟨pL_17_40, List.forall_mem_cons.mpr ⟨pL_17_41, List.forall_mem_cons.mpr ⟨pL_17_42, List.forall_mem_cons.mpr ⟨pL_17_43, List.forall_mem_cons.mpr ⟨pL_17_44, List.forall_mem_cons.mpr ⟨pL_17_45, List.forall_mem_cons.mpr ⟨pL_17_46, List.forall_mem_cons.mpr ⟨pL_17_47, List.forall_mem_cons.mpr ⟨pL_17_48, List.forall_mem_cons.mpr ⟨pL_17_49, List.forall_mem_cons.mpr ⟨pL_17_50, List.forall_mem_cons.mpr ⟨pL_17_51, List.forall_mem_cons.mpr ⟨pL_17_52, List.forall_mem_cons.mpr ⟨pL_17_53, List.forall_mem_cons.mpr ⟨pL_17_54, List.forall_mem_cons.mpr ⟨pL_17_55, List.forall_mem_cons.mpr ⟨pL_17_56, List.forall_mem_cons.mpr ⟨pL_17_57, List.forall_mem_cons.mpr ⟨pL_17_58, List.forall_mem_cons.mpr ⟨pL_17_59, List.forall_mem_cons.mpr ⟨pL_17_60, List.forall_mem_cons.mpr ⟨pL_17_61, List.forall_mem_cons.mpr ⟨pL_17_62, List.forall_mem_cons.mpr ⟨pL_17_63, List.forall_mem_cons.mpr ⟨pL_17_64, List.forall_mem_cons.mpr ⟨pL_17_65, List.forall_mem_cons.mpr ⟨pL_17_66, List.forall_mem_cons.mpr ⟨pL_17_67, List.forall_mem_cons.mpr ⟨pL_17_68, List.forall_mem_cons.mpr ⟨pL_17_69, List.forall_mem_cons.mpr ⟨pL_17_70, List.forall_mem_cons.mpr ⟨pL_17_71, List.forall_mem_cons.mpr ⟨pL_17_72, List.forall_mem_cons.mpr ⟨pL_17_73, List.forall_mem_cons.mpr ⟨pL_17_74, List.forall_mem_cons.mpr ⟨pL_17_75, List.forall_mem_cons.mpr ⟨pL_17_76, List.forall_mem_cons.mpr ⟨pL_17_77, List.forall_mem_cons.mpr ⟨pL_17_78, List.forall_mem_cons.mpr ⟨pL_17_79, List.forall_mem_cons.mpr ⟨pL_17_80, List.forall_mem_cons.mpr ⟨pL_17_81, fun _ h => absurd h List.not_mem_nil⟩⟩⟩⟩⟩⟩⟩⟩⟩⟩⟩⟩⟩⟩⟩⟩⟩⟩⟩⟩⟩⟩⟩⟩⟩⟩⟩⟩⟩⟩⟩⟩⟩⟩⟩⟩⟩⟩⟩⟩⟩⟩⟩⟩⟩⟩⟩⟩⟩⟩⟩⟩⟩⟩⟩⟩⟩⟩⟩⟩⟩⟩⟩⟩⟩⟩⟩⟩⟩⟩⟩⟩⟩⟩⟩⟩⟩⟩⟩⟩⟩⟩
theorem pL_all : ∀ (c : Nat) (l : List (Nat × Nat × Nat × Nat × Nat × Nat × Nat × Nat)), aLM[c]? = some l → ∀ e ∈ l, PL c e := by
  intro c l h
  have hc : c < 18 := (List.getElem?_eq_some_iff.mp h).1
  match c, hc, h with
  | 0, _, h => cases h; exact pL_0
  | 1, _, h => cases h; exact pL_1
  | 2, _, h => cases h; exact pL_2
  | 3, _, h => cases h; exact pL_3
  | 4, _, h => cases h; exact pL_4
  | 5, _, h => cases h; exact pL_5
  | 6, _, h => cases h; exact pL_6
  | 7, _, h => cases h; exact pL_7
  | 8, _, h => cases h; exact pL_8
  | 9, _, h => cases h; exact pL_9
  | 10, _, h => cases h; exact pL_10
  | 11, _, h => cases h; exact pL_11
  | 12, _, h => cases h; exact pL_12
  | 13, _, h => cases h; exact pL_13
  | 14, _, h => cases h; exact pL_14
  | 15, _, h => cases h; exact pL_15
  | 16, _, h => cases h; exact pL_16
  | 17, _, h => cases h; exact pL_17
theorem lkPL {T : List (List (Nat × Nat × Nat × Nat × Nat × Nat × Nat × Nat))} {P : Nat → (Nat × Nat × Nat × Nat × Nat × Nat × Nat × Nat) → Prop} (h : ∀ (c : Nat) (l : List (Nat × Nat × Nat × Nat × Nat × Nat × Nat × Nat)), T[c]? = some l → ∀ e ∈ l, P c e) {c x : Nat} {v : Nat × Nat × Nat × Nat × Nat × Nat × Nat} (hk : lkC T c x = some v) : P c (x, v) := by
  unfold lkC at hk
  split at hk
  · rename_i l hl
    exact h c l hl _ (lkp_mem hk)
  · cases hk
def chkN (c : Nat) (e : Nat × Nat × Nat × Nat × Nat) : Bool := match aCl[e.2.1]? with
  | some q => inG e.2.2.1 (.classLink (cpN c) e.1 q.1) && inG e.2.2.2.1 (.instantiable q.1 q.2.2) && inG e.2.2.2.2 (.initialized q.1)
  | none => false
theorem chkN_all : allL chkN 0 aLC = true := by decide +kernel
def chkK (c : Nat) (e : Nat × Nat × Int × Nat) : Bool := match e.2.1 with
  | 0 => inG e.2.2.2 (.constant (cpN c) e.1 (Int32.ofInt e.2.2.1)) && decide (-2147483648 ≤ e.2.2.1 ∧ e.2.2.1 < 2147483648)
  | 1 => inG e.2.2.2 (.constantLong (cpN c) e.1 (Int64.ofInt e.2.2.1)) && decide (-9223372036854775808 ≤ e.2.2.1 ∧ e.2.2.1 < 9223372036854775808)
  | 3 => decide (lw_tbl[e.2.2.2]? = some (.stringRef (cpN c) e.1 ((aStrT[e.2.2.1.toNat]?).getD ""))) && decide (0 ≤ e.2.2.1 ∧ e.2.2.1 < 10)
  | _ => false
theorem chkK_all : allL chkK 0 aLK = true := by decide +kernel
def chkS (c : Nat) (e : Nat × Nat × Nat) : Bool := match e.2.1 with
  | 0 => inG e.2.2 (.fieldLink (cpN c) e.1 "PrimeProofs$Arithmetic" "WITNESSES" "[I")
  | 1 => inG e.2.2 (.fieldLink (cpN c) e.1 "java/lang/String" "COMPACT_STRINGS" "Z")
  | 2 => inG e.2.2 (.fieldLink (cpN c) e.1 "jdk/internal/util/Preconditions" "SIOOBE_FORMATTER" "Ljava/util/function/BiFunction;")
  | 3 => inG e.2.2 (.fieldLink (cpN c) e.1 "java/lang/String" "value" "[B")
  | 4 => inG e.2.2 (.fieldLink (cpN c) e.1 "java/lang/String" "coder" "B")
  | _ => false
theorem chkS_all : allL chkS 0 aLS = true := by decide +kernel
