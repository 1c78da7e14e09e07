/-! the beginning: both objects are made -/
def h00 : AH := (fun _ => 0, fun _ => 0, fun _ _ => 0, 0, 0)
theorem some_g {α : Type} {o : Option α} {d : α} (h : o.isSome = true) : o = some (o.getD d) := by
  cases o with
  | none => cases h
  | some v => rfl
def hx3 : AH := (X_init 0 (hNew h00 9 6 (dfO 8))).getD h00
theorem hx3_e : X_init 0 (hNew h00 9 6 (dfO 8)) = some hx3 := some_g (by decide +kernel)
theorem hx3_n : hNx hx3 = 27 := by decide +kernel
def hr6 : AH := (R_init 27 (hNew hx3 10 35 (dfO 9))).getD h00
theorem hr6_e : R_init 27 (hNew hx3 10 35 (dfO 9)) = some hr6 := some_g (by decide +kernel)
theorem hr6_t : ∀ k : Nat, k < 52 → hTy hr6 k = shT.getD k 0 ∧ hLn hr6 k = shL.getD k 0 := by decide +kernel
theorem hr6_p : ∀ e ∈ shP, hCe hr6 (e.1 : Int) (e.2.1 : Int) = e.2.2 := by decide +kernel
theorem hr6_w : ∀ j : Nat, j < 49 → hCe hr6 49 j = wdT.getD j 0 := by decide +kernel
theorem hr6_n : hNx hr6 = 52 ∧ hWd hr6 = 8590 := by decide +kernel
theorem hr6_2 : ∀ i : Nat, i < 60 → hCe hr6 2 i = -1 := by decide +kernel
theorem hr6_13 : ∀ i : Nat, i < 40 → hCe hr6 13 i = -1 := by decide +kernel
theorem hr6_0 : hCe hr6 1 5 = 0 ∧ hCe hr6 1 4 = 0 ∧ hCe hr6 14 1 = 0 ∧ hCe hr6 27 7 = 0 ∧ hCe hr6 27 24 = 0 := by decide +kernel
theorem hr6_sh : Sh hr6 := ⟨hr6_t, hr6_p, hr6_w, 0, hr6_n.1, by omega, hr6_n.2, fun b hb => absurd hb (Nat.not_lt_zero b)⟩
theorem hr6_x : XS hr6 [] [] := by
  have no : ∀ {P : Nat → Prop}, ∀ i : Nat, i < ([] : List LN).length → P i := fun i hi => absurd hi (Nat.not_lt_zero i)
  refine ⟨⟨0, 0, ⟨hr6_sh, ⟨by omega, by omega, hr6_n.1, fun i hi => absurd hi (Nat.not_lt_zero i), fun i _ hi => hr6_2 i hi, fun i hi => absurd hi (Nat.not_lt_zero i), fun i _ hi => hr6_13 i hi, fun i j hi => absurd hi (Nat.not_lt_zero i), fun i j hi => absurd hi (Nat.not_lt_zero i), fun i j hi => absurd hi (Nat.not_lt_zero i)⟩, Nat.le_refl _, hr6_0.1, no⟩, no, 0, hr6_0.2.1, by decide, no⟩, hr6_0.2.2.1, by decide, (fun x hx => absurd hx List.not_mem_nil), fun i hi => absurd hi (Nat.not_lt_zero i)⟩
theorem hr6_m : MS hr6 [] [] := ⟨hr6_sh, ⟨hr6_0.2.2.2.1, by decide, fun i hi => absurd hi (Nat.not_lt_zero i)⟩, hr6_0.2.2.2.2, by decide, (fun x hx => absurd hx List.not_mem_nil), fun i hi => absurd hi (Nat.not_lt_zero i)⟩
/-- the law on every script -/
theorem law_1 (hM : MRok) (hP : PRok) {sc : AS} (hs : 0 ≤ sc.1 ∧ sc.1 ≤ 3072) (hi : ∀ j, i32 (sc.2 j)) : ∃ h', Law_law sc h00 = some (1, h') ∧ Sh h' := by
  have c := law_loop hM hP hs hi 4000 FU 0 hr6 [] [] (by omega) (by omega) (fu_big (by omega)) hr6_x hr6_m
  refine c.go ?_
  unfold Law_law
  refine gB trivial ?_
  refine gB (by decide) ?_
  refine cB hx3_e ?_
  refine gB trivial ?_
  refine gB (by rw [hx3_n]; decide) ?_
  rw [hx3_n]
  exact cB hr6_e rfl
