/-! the entry: what the tables and the start give -/
def tmS (i : Nat) : Term := match i with
  | 0 => .string "PrimeProofs$Speller" 15
  | 1 => .string "PrimeProofs$Speller" 17
  | 2 => .string "PrimeProofs$Speller" 19
  | 3 => .string "PrimeProofs$Speller" 21
  | 4 => .string "PrimeProofs$Speller" 23
  | 5 => .string "PrimeProofs$Reader" 123
  | 6 => .string "PrimeProofs$Reader" 96
  | 7 => .string "PrimeProofs$Reader" 125
  | 8 => .string "PrimeProofs$Reader" 115
  | _ => .string "PrimeProofs$Reader" 116
theorem arr_cls {s : State} {args : Array Value} {ty : FieldType} (h : (Cond.arrayClass ty).before args s = true) : ∃ cA, ArrOfT s cA ty ∧ s.vm.findClass ("[" ++ ty.toString) = some cA := by
  obtain ⟨cA, kA, comp, h1, h2, h3⟩ := Cond.arrayClass_spec h
  exact ⟨cA, fun n z => ⟨fun k h => (by cases h), kA, h2, comp, h3⟩, h1⟩
theorem arr_over {s : State} {args : Array Value} {C : String} (h : (Cond.arrayOver (.object C)).before args s = true) : ∃ cA, ArrOfT s cA (.object C) ∧ va_RA s cA (.object C) := by
  obtain ⟨comp, cA, kA, h1, h2, h3, h4, h5⟩ := Cond.arrayOver_spec h
  exact ⟨cA, fun n z => ⟨fun k h => (by cases h), kA, h3, comp, h4⟩, kA, comp, h3, h4, h1, h5⟩
section ENTRY
variable {s : State} {b L : Nat} {xs : Nat → Int32}
theorem hFl {args : Array Value} (hn : (Jvm.Cond.and given_1 narrow_1).before args s = true) {k : Nat} {w : Cond} (hk : (flatC (Jvm.Cond.and given_1 narrow_1))[k]? = some w) : w.before args s = true := flat_of_before _ hn _ (List.mem_of_getElem? hk)
theorem eS_ex {args : Array Value} (hn : (Jvm.Cond.and given_1 narrow_1).before args s = true) : ∀ i : Nat, i < 10 → (Cond.exactly (tmS i) "java/lang/String").before args s = true
  | 0, _ => hFl hn (k := 16) rfl
  | 1, _ => hFl hn (k := 25) rfl
  | 2, _ => hFl hn (k := 34) rfl
  | 3, _ => hFl hn (k := 45) rfl
  | 4, _ => hFl hn (k := 56) rfl
  | 5, _ => hFl hn (k := 69) rfl
  | 6, _ => hFl hn (k := 82) rfl
  | 7, _ => hFl hn (k := 94) rfl
  | 8, _ => hFl hn (k := 109) rfl
  | 9, _ => hFl hn (k := 125) rfl
  | n + 10, h => absurd h (by omega)
theorem eS_co {args : Array Value} (hn : (Jvm.Cond.and given_1 narrow_1).before args s = true) : ∀ i : Nat, i < 10 → (Cond.eq (.field (tmS i) "java/lang/String" "coder" "B") (.int 0)).before args s = true
  | 0, _ => hFl hn (k := 17) rfl
  | 1, _ => hFl hn (k := 26) rfl
  | 2, _ => hFl hn (k := 35) rfl
  | 3, _ => hFl hn (k := 46) rfl
  | 4, _ => hFl hn (k := 57) rfl
  | 5, _ => hFl hn (k := 70) rfl
  | 6, _ => hFl hn (k := 83) rfl
  | 7, _ => hFl hn (k := 95) rfl
  | 8, _ => hFl hn (k := 110) rfl
  | 9, _ => hFl hn (k := 126) rfl
  | n + 10, h => absurd h (by omega)
theorem eS_ar {args : Array Value} (hn : (Jvm.Cond.and given_1 narrow_1).before args s = true) : ∀ i : Nat, i < 10 → (Cond.arrayOf (.field (tmS i) "java/lang/String" "value" "[B") .byte).before args s = true
  | 0, _ => hFl hn (k := 18) rfl
  | 1, _ => hFl hn (k := 27) rfl
  | 2, _ => hFl hn (k := 36) rfl
  | 3, _ => hFl hn (k := 47) rfl
  | 4, _ => hFl hn (k := 58) rfl
  | 5, _ => hFl hn (k := 71) rfl
  | 6, _ => hFl hn (k := 84) rfl
  | 7, _ => hFl hn (k := 96) rfl
  | 8, _ => hFl hn (k := 111) rfl
  | 9, _ => hFl hn (k := 127) rfl
  | n + 10, h => absurd h (by omega)
theorem eS_le {args : Array Value} (hn : (Jvm.Cond.and given_1 narrow_1).before args s = true) : ∀ i : Nat, i < 10 → (Cond.eq (.length (.field (tmS i) "java/lang/String" "value" "[B")) (.int (Int32.ofNat (lenS.getD i 0)))).before args s = true
  | 0, _ => hFl hn (k := 19) rfl
  | 1, _ => hFl hn (k := 28) rfl
  | 2, _ => hFl hn (k := 37) rfl
  | 3, _ => hFl hn (k := 48) rfl
  | 4, _ => hFl hn (k := 59) rfl
  | 5, _ => hFl hn (k := 72) rfl
  | 6, _ => hFl hn (k := 85) rfl
  | 7, _ => hFl hn (k := 97) rfl
  | 8, _ => hFl hn (k := 112) rfl
  | 9, _ => hFl hn (k := 128) rfl
  | n + 10, h => absurd h (by omega)
theorem eS_el {args : Array Value} (hn : (Jvm.Cond.and given_1 narrow_1).before args s = true) : ∀ i : Nat, i < 10 → ∀ j : Nat, j < lenS.getD i 0 → (Cond.eq (.elem (.field (tmS i) "java/lang/String" "value" "[B") (.int (Int32.ofNat j))) (.int ((bytS.getD i []).getD j 0))).before args s = true
  | 0, _ => fun j => match j with
    | 0 => fun _ => hFl hn (k := 20) rfl
    | 1 => fun _ => hFl hn (k := 21) rfl
    | 2 => fun _ => hFl hn (k := 22) rfl
    | 3 => fun _ => hFl hn (k := 23) rfl
    | 4 => fun _ => hFl hn (k := 24) rfl
    | n + 5 => fun h => absurd (show n + 5 < 5 from h) (by omega)
  | 1, _ => fun j => match j with
    | 0 => fun _ => hFl hn (k := 29) rfl
    | 1 => fun _ => hFl hn (k := 30) rfl
    | 2 => fun _ => hFl hn (k := 31) rfl
    | 3 => fun _ => hFl hn (k := 32) rfl
    | n + 4 => fun h => absurd (show n + 4 < 4 from h) (by omega)
  | 2, _ => fun j => match j with
    | 0 => fun _ => hFl hn (k := 38) rfl
    | 1 => fun _ => hFl hn (k := 39) rfl
    | 2 => fun _ => hFl hn (k := 40) rfl
    | 3 => fun _ => hFl hn (k := 41) rfl
    | 4 => fun _ => hFl hn (k := 42) rfl
    | n + 5 => fun h => absurd (show n + 5 < 5 from h) (by omega)
  | 3, _ => fun j => match j with
    | 0 => fun _ => hFl hn (k := 49) rfl
    | 1 => fun _ => hFl hn (k := 50) rfl
    | 2 => fun _ => hFl hn (k := 51) rfl
    | 3 => fun _ => hFl hn (k := 52) rfl
    | n + 4 => fun h => absurd (show n + 4 < 4 from h) (by omega)
  | 4, _ => fun j => match j with
    | 0 => fun _ => hFl hn (k := 60) rfl
    | 1 => fun _ => hFl hn (k := 61) rfl
    | 2 => fun _ => hFl hn (k := 62) rfl
    | 3 => fun _ => hFl hn (k := 63) rfl
    | 4 => fun _ => hFl hn (k := 64) rfl
    | n + 5 => fun h => absurd (show n + 5 < 5 from h) (by omega)
  | 5, _ => fun j => match j with
    | 0 => fun _ => hFl hn (k := 73) rfl
    | 1 => fun _ => hFl hn (k := 74) rfl
    | 2 => fun _ => hFl hn (k := 75) rfl
    | 3 => fun _ => hFl hn (k := 76) rfl
    | n + 4 => fun h => absurd (show n + 4 < 4 from h) (by omega)
  | 6, _ => fun j => match j with
    | 0 => fun _ => hFl hn (k := 86) rfl
    | 1 => fun _ => hFl hn (k := 87) rfl
    | n + 2 => fun h => absurd (show n + 2 < 2 from h) (by omega)
  | 7, _ => fun j => match j with
    | 0 => fun _ => hFl hn (k := 98) rfl
    | 1 => fun _ => hFl hn (k := 99) rfl
    | 2 => fun _ => hFl hn (k := 100) rfl
    | 3 => fun _ => hFl hn (k := 101) rfl
    | n + 4 => fun h => absurd (show n + 4 < 4 from h) (by omega)
  | 8, _ => fun j => match j with
    | 0 => fun _ => hFl hn (k := 113) rfl
    | 1 => fun _ => hFl hn (k := 114) rfl
    | 2 => fun _ => hFl hn (k := 115) rfl
    | 3 => fun _ => hFl hn (k := 116) rfl
    | n + 4 => fun h => absurd (show n + 4 < 4 from h) (by omega)
  | 9, _ => fun j => match j with
    | 0 => fun _ => hFl hn (k := 129) rfl
    | 1 => fun _ => hFl hn (k := 130) rfl
    | n + 2 => fun h => absurd (show n + 2 < 2 from h) (by omega)
  | n + 10, h => absurd h (by omega)
theorem eS_ne {args : Array Value} (hn : (Jvm.Cond.and given_1 narrow_1).before args s = true) : ∀ i : Nat, i < 10 → ∀ j : Nat, j < 10 → i ≠ j → (Cond.not (Cond.eq (tmS i) (tmS j))).before args s = true ∨ (Cond.not (Cond.eq (tmS j) (tmS i))).before args s = true
  | 0, _ => fun j => match j with
    | 0 => fun _ q => absurd rfl q
    | 1 => fun _ _ => Or.inl (hFl hn (k := 33) rfl)
    | 2 => fun _ _ => Or.inl (hFl hn (k := 43) rfl)
    | 3 => fun _ _ => Or.inl (hFl hn (k := 53) rfl)
    | 4 => fun _ _ => Or.inl (hFl hn (k := 65) rfl)
    | 5 => fun _ _ => Or.inl (hFl hn (k := 77) rfl)
    | 6 => fun _ _ => Or.inl (hFl hn (k := 88) rfl)
    | 7 => fun _ _ => Or.inl (hFl hn (k := 102) rfl)
    | 8 => fun _ _ => Or.inl (hFl hn (k := 117) rfl)
    | 9 => fun _ _ => Or.inl (hFl hn (k := 131) rfl)
    | n + 10 => fun h => absurd h (by omega)
  | 1, _ => fun j => match j with
    | 0 => fun _ _ => Or.inr (hFl hn (k := 33) rfl)
    | 1 => fun _ q => absurd rfl q
    | 2 => fun _ _ => Or.inl (hFl hn (k := 44) rfl)
    | 3 => fun _ _ => Or.inl (hFl hn (k := 54) rfl)
    | 4 => fun _ _ => Or.inl (hFl hn (k := 66) rfl)
    | 5 => fun _ _ => Or.inl (hFl hn (k := 78) rfl)
    | 6 => fun _ _ => Or.inl (hFl hn (k := 89) rfl)
    | 7 => fun _ _ => Or.inl (hFl hn (k := 103) rfl)
    | 8 => fun _ _ => Or.inl (hFl hn (k := 118) rfl)
    | 9 => fun _ _ => Or.inl (hFl hn (k := 132) rfl)
    | n + 10 => fun h => absurd h (by omega)
  | 2, _ => fun j => match j with
    | 0 => fun _ _ => Or.inr (hFl hn (k := 43) rfl)
    | 1 => fun _ _ => Or.inr (hFl hn (k := 44) rfl)
    | 2 => fun _ q => absurd rfl q
    | 3 => fun _ _ => Or.inl (hFl hn (k := 55) rfl)
    | 4 => fun _ _ => Or.inl (hFl hn (k := 67) rfl)
    | 5 => fun _ _ => Or.inl (hFl hn (k := 79) rfl)
    | 6 => fun _ _ => Or.inl (hFl hn (k := 90) rfl)
    | 7 => fun _ _ => Or.inl (hFl hn (k := 104) rfl)
    | 8 => fun _ _ => Or.inl (hFl hn (k := 119) rfl)
    | 9 => fun _ _ => Or.inl (hFl hn (k := 133) rfl)
    | n + 10 => fun h => absurd h (by omega)
  | 3, _ => fun j => match j with
    | 0 => fun _ _ => Or.inr (hFl hn (k := 53) rfl)
    | 1 => fun _ _ => Or.inr (hFl hn (k := 54) rfl)
    | 2 => fun _ _ => Or.inr (hFl hn (k := 55) rfl)
    | 3 => fun _ q => absurd rfl q
    | 4 => fun _ _ => Or.inl (hFl hn (k := 68) rfl)
    | 5 => fun _ _ => Or.inl (hFl hn (k := 80) rfl)
    | 6 => fun _ _ => Or.inl (hFl hn (k := 91) rfl)
    | 7 => fun _ _ => Or.inl (hFl hn (k := 105) rfl)
    | 8 => fun _ _ => Or.inl (hFl hn (k := 120) rfl)
    | 9 => fun _ _ => Or.inl (hFl hn (k := 134) rfl)
    | n + 10 => fun h => absurd h (by omega)
  | 4, _ => fun j => match j with
    | 0 => fun _ _ => Or.inr (hFl hn (k := 65) rfl)
    | 1 => fun _ _ => Or.inr (hFl hn (k := 66) rfl)
    | 2 => fun _ _ => Or.inr (hFl hn (k := 67) rfl)
    | 3 => fun _ _ => Or.inr (hFl hn (k := 68) rfl)
    | 4 => fun _ q => absurd rfl q
    | 5 => fun _ _ => Or.inl (hFl hn (k := 81) rfl)
    | 6 => fun _ _ => Or.inl (hFl hn (k := 92) rfl)
    | 7 => fun _ _ => Or.inl (hFl hn (k := 106) rfl)
    | 8 => fun _ _ => Or.inl (hFl hn (k := 121) rfl)
    | 9 => fun _ _ => Or.inl (hFl hn (k := 135) rfl)
    | n + 10 => fun h => absurd h (by omega)
  | 5, _ => fun j => match j with
    | 0 => fun _ _ => Or.inr (hFl hn (k := 77) rfl)
    | 1 => fun _ _ => Or.inr (hFl hn (k := 78) rfl)
    | 2 => fun _ _ => Or.inr (hFl hn (k := 79) rfl)
    | 3 => fun _ _ => Or.inr (hFl hn (k := 80) rfl)
    | 4 => fun _ _ => Or.inr (hFl hn (k := 81) rfl)
    | 5 => fun _ q => absurd rfl q
    | 6 => fun _ _ => Or.inl (hFl hn (k := 93) rfl)
    | 7 => fun _ _ => Or.inl (hFl hn (k := 107) rfl)
    | 8 => fun _ _ => Or.inl (hFl hn (k := 122) rfl)
    | 9 => fun _ _ => Or.inl (hFl hn (k := 136) rfl)
    | n + 10 => fun h => absurd h (by omega)
  | 6, _ => fun j => match j with
    | 0 => fun _ _ => Or.inr (hFl hn (k := 88) rfl)
    | 1 => fun _ _ => Or.inr (hFl hn (k := 89) rfl)
    | 2 => fun _ _ => Or.inr (hFl hn (k := 90) rfl)
    | 3 => fun _ _ => Or.inr (hFl hn (k := 91) rfl)
    | 4 => fun _ _ => Or.inr (hFl hn (k := 92) rfl)
    | 5 => fun _ _ => Or.inr (hFl hn (k := 93) rfl)
    | 6 => fun _ q => absurd rfl q
    | 7 => fun _ _ => Or.inl (hFl hn (k := 108) rfl)
    | 8 => fun _ _ => Or.inl (hFl hn (k := 123) rfl)
    | 9 => fun _ _ => Or.inl (hFl hn (k := 137) rfl)
    | n + 10 => fun h => absurd h (by omega)
  | 7, _ => fun j => match j with
    | 0 => fun _ _ => Or.inr (hFl hn (k := 102) rfl)
    | 1 => fun _ _ => Or.inr (hFl hn (k := 103) rfl)
    | 2 => fun _ _ => Or.inr (hFl hn (k := 104) rfl)
    | 3 => fun _ _ => Or.inr (hFl hn (k := 105) rfl)
    | 4 => fun _ _ => Or.inr (hFl hn (k := 106) rfl)
    | 5 => fun _ _ => Or.inr (hFl hn (k := 107) rfl)
    | 6 => fun _ _ => Or.inr (hFl hn (k := 108) rfl)
    | 7 => fun _ q => absurd rfl q
    | 8 => fun _ _ => Or.inl (hFl hn (k := 124) rfl)
    | 9 => fun _ _ => Or.inl (hFl hn (k := 138) rfl)
    | n + 10 => fun h => absurd h (by omega)
  | 8, _ => fun j => match j with
    | 0 => fun _ _ => Or.inr (hFl hn (k := 117) rfl)
    | 1 => fun _ _ => Or.inr (hFl hn (k := 118) rfl)
    | 2 => fun _ _ => Or.inr (hFl hn (k := 119) rfl)
    | 3 => fun _ _ => Or.inr (hFl hn (k := 120) rfl)
    | 4 => fun _ _ => Or.inr (hFl hn (k := 121) rfl)
    | 5 => fun _ _ => Or.inr (hFl hn (k := 122) rfl)
    | 6 => fun _ _ => Or.inr (hFl hn (k := 123) rfl)
    | 7 => fun _ _ => Or.inr (hFl hn (k := 124) rfl)
    | 8 => fun _ q => absurd rfl q
    | 9 => fun _ _ => Or.inl (hFl hn (k := 139) rfl)
    | n + 10 => fun h => absurd h (by omega)
  | 9, _ => fun j => match j with
    | 0 => fun _ _ => Or.inr (hFl hn (k := 131) rfl)
    | 1 => fun _ _ => Or.inr (hFl hn (k := 132) rfl)
    | 2 => fun _ _ => Or.inr (hFl hn (k := 133) rfl)
    | 3 => fun _ _ => Or.inr (hFl hn (k := 134) rfl)
    | 4 => fun _ _ => Or.inr (hFl hn (k := 135) rfl)
    | 5 => fun _ _ => Or.inr (hFl hn (k := 136) rfl)
    | 6 => fun _ _ => Or.inr (hFl hn (k := 137) rfl)
    | 7 => fun _ _ => Or.inr (hFl hn (k := 138) rfl)
    | 8 => fun _ _ => Or.inr (hFl hn (k := 139) rfl)
    | 9 => fun _ q => absurd rfl q
    | n + 10 => fun h => absurd h (by omega)
  | n + 10, h => absurd h (by omega)
theorem eK_cl {args : Array Value} (hts : ∀ w ∈ lw_tbl, w.before args s = true) : ∀ c : Nat, ∃ p : ClassId × (Nat → Nat), ∀ q : vw_C, aCl[c]? = some q → u_Kn s q.1 q.2.1 q.2.2 p.1 p.2
  | 0 => by
    obtain ⟨c, f, h⟩ := u_known (T := aT0) (N := 3) (C := aR0) hts aI0 (hts _ (gT1 (i := 71) rfl))
    exact ⟨(c, f), fun q hq => by cases hq; exact h⟩
  | 1 => by
    obtain ⟨c, f, h⟩ := u_known (T := aT1) (N := 4) (C := aR1) hts aI1 (hts _ (gT1 (i := 65) rfl))
    exact ⟨(c, f), fun q hq => by cases hq; exact h⟩
  | 2 => by
    obtain ⟨c, f, h⟩ := u_known (T := aT2) (N := 6) (C := aR2) hts aI2 (hts _ (gT1 (i := 29) rfl))
    exact ⟨(c, f), fun q hq => by cases hq; exact h⟩
  | 3 => by
    obtain ⟨c, f, h⟩ := u_known (T := aT3) (N := 7) (C := aR3) hts aI3 (hts _ (gT1 (i := 129) rfl))
    exact ⟨(c, f), fun q hq => by cases hq; exact h⟩
  | 4 => by
    obtain ⟨c, f, h⟩ := u_known (T := aT4) (N := 6) (C := aR4) hts aI4 (hts _ (gT1 (i := 123) rfl))
    exact ⟨(c, f), fun q hq => by cases hq; exact h⟩
  | 5 => by
    obtain ⟨c, f, h⟩ := u_known (T := aT5) (N := 2) (C := aR5) hts aI5 (hts _ (gT1 (i := 135) rfl))
    exact ⟨(c, f), fun q hq => by cases hq; exact h⟩
  | 6 => by
    obtain ⟨c, f, h⟩ := u_known (T := aT6) (N := 2) (C := aR6) hts aI6 (hts _ (gT1 (i := 228) rfl))
    exact ⟨(c, f), fun q hq => by cases hq; exact h⟩
  | 7 => by
    obtain ⟨c, f, h⟩ := u_known (T := aT7) (N := 2) (C := aR7) hts aI7 (hts _ (gT1 (i := 106) rfl))
    exact ⟨(c, f), fun q hq => by cases hq; exact h⟩
  | 8 => by
    obtain ⟨c, f, h⟩ := u_known (T := aT8) (N := 6) (C := aR8) hts aI8 (hts _ (gT1 (i := 21) rfl))
    exact ⟨(c, f), fun q hq => by cases hq; exact h⟩
  | 9 => by
    obtain ⟨c, f, h⟩ := u_known (T := aT9) (N := 35) (C := aR9) hts aI9 (hts _ (gT4 (i := 222) rfl))
    exact ⟨(c, f), fun q hq => by cases hq; exact h⟩
  | n + 10 => ⟨(0, fun _ => 0), fun q hq => by simp [aCl] at hq⟩
theorem eK_st (hts : ∀ w ∈ lw_tbl, w.before #[Value.ref b] s = true) (hn : (Jvm.Cond.and given_1 narrow_1).before #[Value.ref b] s = true) {adK : Nat → Nat} (hev : ∀ i : Nat, i < 10 → (tmS i).eval #[Value.ref b] s none [] s = some (.ref (adK i))) : ∀ (c : Nat) (l : List (Nat × Nat × Int × Nat)), aLK[c]? = some l → ∀ e ∈ l, e.2.1 = 3 → vk_R (cpN c) e.1 ((aStrT[e.2.2.1.toNat]?).getD "") (adK e.2.2.1.toNat) s := by
  intro c l hc
  have hl : c < 18 := (List.getElem?_eq_some_iff.mp hc).1
  match c, hl, hc with
  | 0, _, hc => cases hc; exact List.forall_mem_cons.mpr ⟨fun h => absurd h (by decide), List.forall_mem_cons.mpr ⟨fun h => absurd h (by decide), List.forall_mem_cons.mpr ⟨fun h => absurd h (by decide), List.forall_mem_cons.mpr ⟨fun h => absurd h (by decide), List.forall_mem_cons.mpr ⟨fun h => absurd h (by decide), List.forall_mem_cons.mpr ⟨fun h => absurd h (by decide), fun _ h => absurd h List.not_mem_nil⟩⟩⟩⟩⟩⟩
  | 1, _, hc => cases hc; exact List.forall_mem_cons.mpr ⟨fun h => absurd h (by decide), fun _ h => absurd h List.not_mem_nil⟩
  | 2, _, hc => cases hc; exact fun _ h => absurd h List.not_mem_nil
  | 3, _, hc => cases hc; exact fun _ h => absurd h List.not_mem_nil
  | 4, _, hc => cases hc; exact fun _ h => absurd h List.not_mem_nil
  | 5, _, hc => cases hc; exact List.forall_mem_cons.mpr ⟨fun h => absurd h (by decide), List.forall_mem_cons.mpr ⟨fun h => absurd h (by decide), List.forall_mem_cons.mpr ⟨fun _ => vk_R.of (hts _ (gT3 (i := 106) rfl)) (hev 5 (by omega)), List.forall_mem_cons.mpr ⟨fun _ => vk_R.of (hts _ (gT3 (i := 111) rfl)) (hev 6 (by omega)), List.forall_mem_cons.mpr ⟨fun _ => vk_R.of (hts _ (gT3 (i := 125) rfl)) (hev 7 (by omega)), List.forall_mem_cons.mpr ⟨fun _ => vk_R.of (hts _ (gT3 (i := 126) rfl)) (hev 8 (by omega)), List.forall_mem_cons.mpr ⟨fun _ => vk_R.of (hts _ (gT3 (i := 127) rfl)) (hev 9 (by omega)), fun _ h => absurd h List.not_mem_nil⟩⟩⟩⟩⟩⟩⟩
  | 6, _, hc => cases hc; exact fun _ h => absurd h List.not_mem_nil
  | 7, _, hc => cases hc; exact List.forall_mem_cons.mpr ⟨fun h => absurd h (by decide), fun _ h => absurd h List.not_mem_nil⟩
  | 8, _, hc => cases hc; exact List.forall_mem_cons.mpr ⟨fun _ => vk_R.of (hts _ (gT3 (i := 38) rfl)) (hev 0 (by omega)), List.forall_mem_cons.mpr ⟨fun _ => vk_R.of (hts _ (gT3 (i := 39) rfl)) (hev 1 (by omega)), List.forall_mem_cons.mpr ⟨fun _ => vk_R.of (hts _ (gT3 (i := 40) rfl)) (hev 2 (by omega)), List.forall_mem_cons.mpr ⟨fun _ => vk_R.of (hts _ (gT3 (i := 41) rfl)) (hev 3 (by omega)), List.forall_mem_cons.mpr ⟨fun _ => vk_R.of (hts _ (gT3 (i := 42) rfl)) (hev 4 (by omega)), List.forall_mem_cons.mpr ⟨fun h => absurd h (by decide), List.forall_mem_cons.mpr ⟨fun _ => vk_R.of (hts _ (gT4 (i := 82) rfl)) (va_eqR (hFl hn (k := 155) rfl) (hev 7 (by omega))), List.forall_mem_cons.mpr ⟨fun _ => vk_R.of (hts _ (gT4 (i := 83) rfl)) (va_eqR (hFl hn (k := 171) rfl) (hev 5 (by omega))), List.forall_mem_cons.mpr ⟨fun _ => vk_R.of (hts _ (gT4 (i := 85) rfl)) (va_eqR (hFl hn (k := 193) rfl) (hev 8 (by omega))), List.forall_mem_cons.mpr ⟨fun _ => vk_R.of (hts _ (gT4 (i := 90) rfl)) (va_eqR (hFl hn (k := 212) rfl) (hev 9 (by omega))), List.forall_mem_cons.mpr ⟨fun _ => vk_R.of (hts _ (gT4 (i := 91) rfl)) (va_eqR (hFl hn (k := 228) rfl) (hev 6 (by omega))), fun _ h => absurd h List.not_mem_nil⟩⟩⟩⟩⟩⟩⟩⟩⟩⟩⟩
  | 9, _, hc => cases hc; exact List.forall_mem_cons.mpr ⟨fun h => absurd h (by decide), List.forall_mem_cons.mpr ⟨fun h => absurd h (by decide), List.forall_mem_cons.mpr ⟨fun h => absurd h (by decide), List.forall_mem_cons.mpr ⟨fun h => absurd h (by decide), List.forall_mem_cons.mpr ⟨fun h => absurd h (by decide), List.forall_mem_cons.mpr ⟨fun h => absurd h (by decide), fun _ h => absurd h List.not_mem_nil⟩⟩⟩⟩⟩⟩
  | 10, _, hc => cases hc; exact List.forall_mem_cons.mpr ⟨fun h => absurd h (by decide), fun _ h => absurd h List.not_mem_nil⟩
  | 11, _, hc => cases hc; exact fun _ h => absurd h List.not_mem_nil
  | 12, _, hc => cases hc; exact fun _ h => absurd h List.not_mem_nil
  | 13, _, hc => cases hc; exact fun _ h => absurd h List.not_mem_nil
  | 14, _, hc => cases hc; exact fun _ h => absurd h List.not_mem_nil
  | 15, _, hc => cases hc; exact List.forall_mem_cons.mpr ⟨fun h => absurd h (by decide), List.forall_mem_cons.mpr ⟨fun h => absurd h (by decide), List.forall_mem_cons.mpr ⟨fun h => absurd h (by decide), fun _ h => absurd h List.not_mem_nil⟩⟩⟩
  | 16, _, hc => cases hc; exact List.forall_mem_cons.mpr ⟨fun h => absurd h (by decide), List.forall_mem_cons.mpr ⟨fun h => absurd h (by decide), List.forall_mem_cons.mpr ⟨fun h => absurd h (by decide), List.forall_mem_cons.mpr ⟨fun h => absurd h (by decide), List.forall_mem_cons.mpr ⟨fun h => absurd h (by decide), List.forall_mem_cons.mpr ⟨fun h => absurd h (by decide), List.forall_mem_cons.mpr ⟨fun h => absurd h (by decide), List.forall_mem_cons.mpr ⟨fun h => absurd h (by decide), List.forall_mem_cons.mpr ⟨fun h => absurd h (by decide), List.forall_mem_cons.mpr ⟨fun h => absurd h (by decide), List.forall_mem_cons.mpr ⟨fun h => absurd h (by decide), List.forall_mem_cons.mpr ⟨fun h => absurd h (by decide), List.forall_mem_cons.mpr ⟨fun h => absurd h (by decide), List.forall_mem_cons.mpr ⟨fun h => absurd h (by decide), List.forall_mem_cons.mpr ⟨fun h => absurd h (by decide), List.forall_mem_cons.mpr ⟨fun h => absurd h (by decide), List.forall_mem_cons.mpr ⟨fun h => absurd h (by decide), List.forall_mem_cons.mpr ⟨fun h => absurd h (by decide), List.forall_mem_cons.mpr ⟨fun h => absurd h (by decide), List.forall_mem_cons.mpr ⟨fun h => absurd h (by decide), List.forall_mem_cons.mpr ⟨fun h => absurd h (by decide), fun _ h => absurd h List.not_mem_nil⟩⟩⟩⟩⟩⟩⟩⟩⟩⟩⟩⟩⟩⟩⟩⟩⟩⟩⟩⟩⟩
  | 17, _, hc => cases hc; exact fun _ h => absurd h List.not_mem_nil
theorem env_ok (hts : ∀ w ∈ lw_tbl, w.before #[Value.ref b] s = true) (hX : va_X b L xs s s.heap) (hb : b < s.heap.size) (hn : (Jvm.Cond.and given_1 narrow_1).before #[Value.ref b] s = true) (hL : L ≤ 3072) : ∃ Z : EZ, zB Z = s.heap.size ∧ zS Z = b ∧ EnvOK Z ((L : Int), fun j => (xs j.toNat).toInt) s s.heap := by
  have hA : ∀ a : Nat, a < s.heap.size → ¬ (fun q => s.heap.size ≤ q) a := fun a ha q => absurd q (by omega)
  obtain ⟨adK, adV, hS, hev⟩ := vk_Sof (A := fun q => s.heap.size ≤ q) (N := 10) (tm := tmS) (len := lenS) (byt := bytS) (by decide) (eS_ex hn) (eS_co hn) (eS_ar hn) (eS_le hn) (eS_el hn) (fun i j hi hj => eS_ne hn i hi j hj) hA
  obtain ⟨tw, htw, hTw⟩ := va_Tof (tm := (Term.static "PrimeProofs$Arithmetic" "WITNESSES" "[I")) (ty := .int) (N := 4) (f := fun j => .int (Int32.ofInt (witA (j : Int)))) (A := fun q => s.heap.size ≤ q) (by decide) (hFl hn (k := 5) rfl) (va_eqt (hFl hn (k := 6) rfl)) (fun j => match j with
    | 0 => fun _ => va_eqt (hFl hn (k := 7) rfl)
    | 1 => fun _ => va_eqt (hFl hn (k := 8) rfl)
    | 2 => fun _ => va_eqt (hFl hn (k := 9) rfl)
    | 3 => fun _ => va_eqt (hFl hn (k := 10) rfl)
    | n + 4 => fun h => absurd h (by omega)) hA
  have hZw := va_Zof (A := fun q => s.heap.size ≤ q) (hts _ (gT2 (i := 71) rfl)) (hts _ (gT1 (i := 11) rfl)) htw hA
  have hZc := va_Zof (A := fun q => s.heap.size ≤ q) (hts _ (gT3 (i := 56) rfl)) (hts _ (gT1 (i := 15) rfl)) (va_eqt (hFl hn (k := 11) rfl)) hA
  have hZo : ∃ v : Value, va_Z "jdk/internal/util/Preconditions" "SIOOBE_FORMATTER" "Ljava/util/function/BiFunction;" v (fun q => s.heap.size ≤ q) s s.heap ∧ (v = .null ∨ ∃ a, v = .ref a) := by
    rcases va_Zqof (A := fun q => s.heap.size ≤ q) (hts _ (gT3 (i := 72) rfl)) (hts _ (gT1 (i := 17) rfl)) (hFl hn (k := 12) rfl) hA with q | ⟨t, q⟩
    · exact ⟨_, q, Or.inl rfl⟩
    · exact ⟨_, q, Or.inr ⟨_, rfl⟩⟩
  obtain ⟨vo, hZo, hvo⟩ := hZo
  obtain ⟨fD, hD⟩ := Classical.axiomOfChoice (eK_cl hts)
  obtain ⟨c_int, g_int, n_int⟩ := arr_cls (hts _ (gT1 (i := 62) rfl))
  obtain ⟨c_long, g_long, n_long⟩ := arr_cls (hts _ (gT1 (i := 63) rfl))
  obtain ⟨c_byte, g_byte, n_byte⟩ := arr_cls (hts _ (gT3 (i := 155) rfl))
  obtain ⟨c_char, g_char, n_char⟩ := arr_cls (hts _ (gT1 (i := 121) rfl))
  obtain ⟨c_boolean, g_boolean, n_boolean⟩ := arr_cls (hts _ (gT5 (i := 92) rfl))
  obtain ⟨c_line, g_line, n_line⟩ := arr_over (hts _ (gT1 (i := 35) rfl))
  refine ⟨((fun c => (fD c).1, fun c => (fD c).2), (fun t => match t with | 21 => c_int | 22 => c_long | 23 => c_byte | 24 => c_char | 25 => c_boolean | _ => c_line), s.heap.size, adK, adV, tw, b, vo), rfl, rfl, hZw, hTw, hZc, hZo, hS, eK_st hts hn hev, ?_, va_AO.of (hts _ (gT1 (i := 35) rfl)), ⟨xs, hX, fun j _ _ => rfl⟩, ⟨hb, Int.natCast_nonneg _, by show in32 (L : Int); unfold in32; omega⟩, ⟨fun c q hq => hD c q hq, ?_⟩, hvo, Nat.le_refl _⟩
  · intro c l hc e he ht M hM
    have h1 := pL_all c l hc e he
    unfold PL at h1
    rw [ht] at h1
    obtain ⟨M', hM', -, -, -, hm⟩ := h1
    rw [hM] at hM'
    cases hM'
    exact va_tabs (A := #[Value.ref b]) rfl rfl (hts _ hm)
  · intro k q hq
    match k, hq with
    | 0, hq => cases hq; exact ⟨g_int, n_int⟩
    | 1, hq => cases hq; exact ⟨g_long, n_long⟩
    | 2, hq => cases hq; exact ⟨g_byte, n_byte⟩
    | 3, hq => cases hq; exact ⟨g_char, n_char⟩
    | 4, hq => cases hq; exact ⟨g_boolean, n_boolean⟩
    | 5, hq => cases hq; exact ⟨g_line, n_line⟩
    | n + 6, hq => simp [aTs] at hq
end ENTRY
