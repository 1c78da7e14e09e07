/-! the second time; read by the class -/
def PTk (b j : Int) : Prop := RKd b j ∨ (b = 1 ∧ j = 5) ∨ b = 2 ∨ 52 ≤ b
theorem CL.rk {h h' : AH} {hw dw : Nat} {ls : List LN} (C : CL h hw dw ls) (F : Fr RKd h h') : CL h' hw dw ls := by
  have e2 : ∀ i : Nat, hCe h' 2 i = hCe h 2 i := fun i => F.2 _ _ fun z => by have := z.q; omega
  refine ⟨C.1.fr F fun b j => RKd.mut, C.2.1.fr F (fun j z => by have := z.q; omega) (fun j z => by have := z.q; omega), C.2.2.1, (F.2 _ _ fun z => by have := z.q; omega).trans C.sz, fun i hi => ?_⟩
  have pr := C.pr hi
  rw [e2]
  refine ⟨(C.ln hi).fr F fun b j x y _ z => by have := z.q; omega, C.ok hi, ?_⟩
  unfold ltOK
  rw [F.2 _ _ fun z => by have := z.q; omega]
  exact C.lt hi
theorem RD.gr {P : Int → Int → Prop} {h h' : AH} {tp : List Int} {T : T3} (R : RD h tp T) (H' : Sh h') (G : Gr P h h') (q : ∀ b j, P b j → b ≠ 14 ∧ b ≠ 15 ∧ b ≠ 16) : RD h' tp T := by
  have n := R.1.n52
  have e : ∀ b j, b = 14 ∨ b = 15 ∨ b = 16 → hCe h' b j = hCe h b j := fun b j x => G.2.1 b j (by omega) fun z => by have := q b j z; omega
  obtain ⟨H, ⟨t1, t2, t3, t4⟩, c3, c4, c5, w⟩ := R
  exact ⟨H', ⟨(e _ _ (by omega)).trans t1, t2, t3, fun i hi => (e _ _ (by omega)).trans (t4 i hi)⟩, (e _ _ (by omega)).trans c3, (e _ _ (by omega)).trans c4, (e _ _ (by omega)).trans c5, w⟩
theorem pt_loop {tp : List Int} {dw : Nat} {ls all : List LN} {T' : T3} (l60 : ls.length + all.length ≤ 60) : ∀ (n f i : Nat) (h : AH) (hw : Nat) (T : T3) (acc : List LN), i + n = 400 → n < f → acc.length = i → acc.length ≤ all.length → RD h tp T → CL h hw dw (ls ++ acc) → 8 * acc.length ≤ T.2.1 → pAll tp n T acc = (some all, T') → ∃ h' hw', Reader_pass_18 f 16 1 i i h = some ((all.length : Int), h') ∧ CL h' hw' dw (ls ++ all) ∧ Gr PTk h h' := by
  intro n
  induction n with
  | zero =>
    intro f i h hw T acc hi hf ha hl R C g8 e
    obtain ⟨f, rfl, -⟩ := fu_pos hf
    unfold pAll at e
    injection e with e1 e2
    injection e1 with e1
    subst e1
    refine ⟨h, hw, ?_, C, Gr.rf⟩
    unfold Reader_pass_18
    refine ifF (by omega) ?_
    rw [ha]
  | succ n ih =>
    intro f i h hw T acc hi hf ha hl R C g8 e
    obtain ⟨f, rfl, hf⟩ := fu_pos hf
    have H := R.1
    have pre : ∀ {r}, (if T.1 = 0 then some ((i : Int), h) else (Reader_tellLine 16 h).bind fun u2 => if u2.1 = 0 then (gd (hTy u2.2 16 = 5) (hCe u2.2 16 4)).bind fun u3 => some (w32 ((-4) - u3), u2.2) else (gd (hTy u2.2 16 = 5) (hCe u2.2 16 1)).bind fun u4 => (gd (hTy u2.2 16 = 5) (hCe u2.2 16 2)).bind fun u5 => (gd (hTy u2.2 u4 = 3) 0).bind fun _ => (Ledger_append u4 u5 u2.2).bind fun u6 => Reader_pass_18 f 16 1 ((i + 1 : Nat) : Int) ((i + 1 : Nat) : Int) u6.2) = r → Reader_pass_18 (f + 1) 16 1 i i h = r := by
      rintro r rfl
      conv => lhs; unfold Reader_pass_18
      refine ifT (by omega) ?_
      refine gB H.t16 ?_
      rw [R.2.2.1, w32_e (z := (i : Int) + 1) (by omega)]
      by_cases k0 : T.1 = 0
      · rw [if_pos k0, if_pos k0]
      · rw [if_neg k0, if_neg k0]
        exact gB H.t16 rfl
    have e' := e
    unfold pAll at e
    by_cases k0 : T.1 = 0
    · rw [if_pos k0] at e
      injection e with e1 e2
      injection e1 with e1
      subst e1
      refine ⟨h, hw, pre ((if_pos k0).trans ?_), C, Gr.rf⟩
      rw [ha]
    · rw [if_neg k0] at e
      obtain ⟨h1, e1, R1, F1, L1⟩ := s_tellLine R
      obtain ⟨l, el, e⟩ := mBI_s e
      have far := pLn_far R.2.2.2.2.2 el
      have few := pAll_few n _ _ _ _ far.1 (by rw [List.length_append]; show 8 * (acc.length + 1) ≤ _; omega) e
      rw [List.length_append] at few
      have few2 : acc.length + 1 ≤ all.length := few.2
      have C1 := C.rk F1
      have lt : (ls ++ acc).length < 60 := by rw [List.length_append]; omega
      obtain ⟨L, c6⟩ := L1 l (by rw [el])
      obtain ⟨h2, hw2, e2, C2, le, G2⟩ := s_append2 C1 lt L (pLn_ok el) (Or.inl c6) (by omega) (by have := R1.1.n52; omega) fun j hj => Or.inl (by have := (C1.2.1.2.2.2.1 j hj).r; omega)
      rw [List.append_assoc] at C2
      have n52 := R1.1.n52
      have o4 := C1.2.1.2.2.2.1
      have R2 := R1.gr C2.1 G2 fun b j z => by
        rcases z with z | z | ⟨z, w⟩
        · omega
        · omega
        · have := (o4 _ z).r
          unfold LK SK at w
          omega
      obtain ⟨h3, hw3, e3, C3, G3⟩ := ih f (i + 1) h2 hw2 _ (acc ++ [l]) (by omega) (by omega) (by rw [List.length_append, ha]; rfl) (by rw [List.length_append]; exact few2) R2 C2 (by rw [List.length_append]; show 8 * (acc.length + 1) ≤ _; omega) e
      refine ⟨h3, hw3, pre ((if_neg k0).trans ?_), C3, (F1.gr.mo fun b j z => Or.inl z).tr ((G2.mo fun b j z => ?_).tr G3)⟩
      · rw [el] at e1
        refine cB e1 (ifF one_ne ?_)
        refine gB R1.1.t16 ?_
        show ((gd (hTy h1 16 = 5) (hCe h1 16 2)).bind fun u5 => (gd (hTy h1 (hCe h1 16 1) = 3) 0).bind fun _ => (Ledger_append (hCe h1 16 1) u5 h1).bind fun u6 => Reader_pass_18 f 16 1 ((i + 1 : Nat) : Int) ((i + 1 : Nat) : Int) u6.2) = _
        rw [R1.1.p16_1, R1.1.p16_2]
        refine gB R1.1.t16 ?_
        refine gB R1.1.t1 ?_
        exact cB e2 e3
      · rcases z with z | z | ⟨z, w⟩
        · exact Or.inr (Or.inl z)
        · exact Or.inr (Or.inr (Or.inl z.1))
        · have := (o4 _ z).r
          unfold LK SK at w
          exact Or.inr (Or.inr (Or.inr (by omega)))
theorem s_passT {h : AH} {hw dw : Nat} {ls all : List LN} {tp : List Int} {T' : T3} (C : CL h hw dw ls) (t : TP h 14 1 15 tp) (l60 : ls.length + all.length ≤ 60) (e : pAll tp 400 (T0 tp) [] = (some all, T')) : ∃ h' hw', Reader_pass 16 1 h = some ((all.length : Int), h') ∧ CL h' hw' dw (ls ++ all) ∧ Gr PTk h h' := by
  obtain ⟨h1, e1, R1, F1⟩ := s_begins2 C.1 t
  obtain ⟨h2, hw2, e2, C2, G2⟩ := pt_loop l60 400 FU 0 h1 hw (T0 tp) [] (by omega) (fu_big (by omega)) rfl (Nat.zero_le _) R1 (by rw [List.append_nil]; exact C.rk F1) (Nat.zero_le _) e
  refine ⟨h2, hw2, ?_, C2, (F1.gr.mo fun b j z => Or.inl z).tr G2⟩
  unfold Reader_pass
  have e3 : ((gd (hTy h 16 = 5) (hSet h 16 3 3)).bind fun h1 => (gd (hTy h1 16 = 5) (hSet h1 16 5 0)).bind fun h2 => (gd (hTy h2 16 = 5) 0).bind fun _ => (Reader_advance 16 h2).bind fun h4 => Reader_pass_18 FU 16 1 0 0 h4) = (((gd (hTy h 16 = 5) (hSet h 16 3 3)).bind fun h1 => (gd (hTy h1 16 = 5) (hSet h1 16 5 0)).bind fun h2 => (gd (hTy h2 16 = 5) 0).bind fun _ => Reader_advance 16 h2).bind fun h4 => Reader_pass_18 FU 16 1 0 0 h4) := by simp only [Option.bind_assoc]
  rw [e3]
  exact cB e1 e2
/-! ### read -/
def rdV (ls : List LN) (r : Option (List LN) × T3) : Int := match r.1 with
  | none => -4 - (r.2.2.1 : Int)
  | some all => if 60 < ls.length + all.length then -3 else (all.length : Int)
def rdL (ls : List LN) (r : Option (List LN) × T3) : List LN := match r.1 with
  | none => ls
  | some all => if 60 < ls.length + all.length then ls else ls ++ all
theorem XS.empty {h : AH} {ls : List LN} {tp : List Int} (X : XS h ls tp) : XS (hSet h 14 1 0) ls [] ∧ Fr CZ h (hSet h 14 1 0) := by
  have F : Fr (fun b j => b = 14 ∧ j = 1) h (hSet h 14 1 0) := Fr.set ⟨rfl, rfl⟩
  obtain ⟨⟨hw, dw, U⟩, -⟩ := X
  exact ⟨⟨⟨hw, dw, U.frS F fun b j z => ⟨mutB (by unfold MutB; omega), by omega⟩⟩, cS _ _ _ _, by decide, (fun x hx => absurd hx List.not_mem_nil), fun i hi => absurd hi (Nat.not_lt_zero i)⟩, F.mo fun b j z => Or.inl (by omega)⟩
theorem XS.rk {h h' : AH} {ls : List LN} {tp : List Int} (X : XS h ls tp) (F : Fr RKd h h') : XS h' ls tp := X.frS F fun b j z => ⟨z.mut, by have := z.q; omega⟩
theorem RKd.cz {b j : Int} (z : RKd b j) : CZ b j := Or.inl (by have := z.q; omega)
theorem x_read (hM : MRok) {ls : List LN} {tp : List Int} (l4 : tp.length ≤ 400) : xC (fun h => X_read 0 h) ls tp (rdV ls (pAll tp 400 (T0 tp) [])) (rdL ls (pAll tp 400 (T0 tp) [])) [] := fun h x => by
  obtain ⟨⟨hw, dw, U⟩, t⟩ := id x
  have C := U.1
  have H := C.1
  have l60 := C.len
  obtain ⟨h1, e1, F1⟩ := s_passF H t
  have x1 := x.rk F1
  have H1 := x1.sh
  obtain ⟨xe, Fe⟩ := x1.empty
  have pre : ∀ {r}, (if 60 - (ls.length : Int) < anP (pAll tp 400 (T0 tp) []) then X_read_28 0 ls.length (-3) h1 else X_read_28 0 ls.length (anP (pAll tp 400 (T0 tp) [])) h1) = r → X_read 0 h = r := by
    rintro r rfl
    unfold X_read
    refine gB H.t0 ?_
    rw [H.p0_0]
    refine gB H.t1 ?_
    rw [C.sz]
    refine gB H.t0 ?_
    rw [H.p0_3]
    refine gB H.t16 ?_
    refine cB e1 ?_
    rw [w32_e (z := 60 - (ls.length : Int)) (by omega)]
  have low : ∀ v : Int, v ≤ 0 → X_read_28 0 ls.length v h1 = some (v, hSet h1 14 1 0) := fun v hv => by
    unfold X_read_28
    refine ifF (by omega) ?_
    refine gB H1.t0 ?_
    rw [H1.p0_2]
    exact gB H1.t14 rfl
  rcases c : pAll tp 400 (T0 tp) [] with ⟨_ | all, T'⟩
  · rw [c] at pre
    have pre : ∀ {r}, (if 60 - (ls.length : Int) < -4 - (T'.2.1 : Int) then X_read_28 0 ls.length (-3) h1 else X_read_28 0 ls.length (-4 - (T'.2.1 : Int)) h1) = r → X_read 0 h = r := pre
    exact ⟨_, pre ((if_neg (by omega)).trans (low _ (by omega))), xe, (F1.gr.mo fun b j => RKd.cz).tr Fe.gr⟩
  · rw [c] at pre
    have pre : ∀ {r}, (if 60 - (ls.length : Int) < (all.length : Int) then X_read_28 0 ls.length (-3) h1 else X_read_28 0 ls.length (all.length : Int) h1) = r → X_read 0 h = r := pre
    show ∃ h', X_read 0 h = some (if 60 < ls.length + all.length then -3 else (all.length : Int), h') ∧ XS h' (if 60 < ls.length + all.length then ls else ls ++ all) [] ∧ Gr CZ h h'
    by_cases big : 60 < ls.length + all.length
    · rw [if_pos big, if_pos big]
      exact ⟨_, pre ((if_pos (by omega)).trans (low _ (by omega))), xe, (F1.gr.mo fun b j => RKd.cz).tr Fe.gr⟩
    rw [if_neg big, if_neg big]
    by_cases z : all.length = 0
    · have : all = [] := List.eq_nil_of_length_eq_zero z
      subst this
      rw [List.append_nil]
      exact ⟨_, pre ((if_neg (by omega)).trans (low _ (by omega))), xe, (F1.gr.mo fun b j => RKd.cz).tr Fe.gr⟩
    obtain ⟨⟨hw1, dw1, U1⟩, t1⟩ := id x1
    obtain ⟨C1, S1, m, B1⟩ := id U1
    obtain ⟨h2, hw2, e2, C2, G2⟩ := s_passT C1 t1 (by omega) c
    have H2 := C2.1
    have n52 := H1.n52
    have far : ∀ b j, (b = 3 ∨ b = 4 ∨ b = 5 ∨ (b = 1 ∧ j = 4) ∨ b = 14 ∨ b = 15) → hCe h2 b j = hCe h1 b j := fun b j y => G2.2.1 b j (by omega) fun w => by
      rcases w with w | w | w | w
      · have := w.q; omega
      · omega
      · omega
      · omega
    have g : ∀ i, i < ls.length → gl ls i = gl (ls ++ all) i := fun i hi => by
      unfold gl
      rw [List.getD_eq_getElem?_getD, List.getD_eq_getElem?_getD, List.getElem?_append_left hi]
    have S2 : SP h2 (ls ++ all) ls.length := SP.g (fun i hi => by
      rw [far _ _ (by omega), far _ _ (by omega), far _ _ (by omega)]
      exact S1 i hi) g
    have B2 : RB h2 (ls ++ all) ls.length m (ls ++ all).length := RB.le (RB.g ⟨(far _ _ (by omega)).trans B1.1, B1.2⟩ g) (Nat.le_refl _) (by rw [List.length_append]; omega)
    obtain ⟨h3, e3, F3, U3⟩ := s_checkFrom hM C2 (i := ls.length) (by rw [List.length_append]; omega) S2 B2
    have H3 := U3.1.1
    have t3 : TP h3 14 1 15 tp := ⟨(F3.2 _ _ (by unfold CK; omega)).trans ((far _ _ (by omega)).trans t1.1), t1.2.1, t1.2.2.1, fun i hi => (F3.2 _ _ (by unfold CK; omega)).trans ((far _ _ (by omega)).trans (t1.2.2.2 i hi))⟩
    have x3 : XS h3 (ls ++ all) tp := ⟨⟨hw2, dw1, U3⟩, t3⟩
    obtain ⟨x4, F4⟩ := x3.empty
    refine ⟨_, pre ((if_neg (by omega)).trans ?_), x4, (F1.gr.mo fun b j => RKd.cz).tr ((G2.mo fun b j w => ?_).tr ((F3.gr.mo fun b j w => ?_).tr F4.gr))⟩
    · unfold X_read_28
      refine ifT (by omega) ?_
      refine gB H1.t0 ?_
      rw [H1.p0_3]
      refine gB H1.t16 ?_
      refine cB e2 ?_
      refine gB H2.t0 ?_
      show ((gd (hTy h2 (hCe h2 0 0) = 3) 0).bind fun _ => (Ledger_checkFrom (hCe h2 0 0) ls.length h2).bind fun h5 => (gd (hTy h5 0 = 9) (hCe h5 0 2)).bind fun u6 => (gd (hTy h5 u6 = 8) (hSet h5 u6 1 0)).bind fun h7 => some ((all.length : Int), h7)) = _
      rw [H2.p0_0]
      refine gB H2.t1 ?_
      refine cB e3 ?_
      refine gB H3.t0 ?_
      rw [H3.p0_2]
      exact gB H3.t14 rfl
    · rcases w with w | w | w | w
      · exact RKd.cz w
      · exact Or.inl (by omega)
      · exact Or.inl (by omega)
      · exact Or.inr w
    · unfold CK at w
      unfold CZ
      omega
