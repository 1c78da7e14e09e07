/-! read, both sides -/
/-- every place of the reading lies on the tape -/
def Bd (tp : List Int) {α : Type} (f : T3 → Option α × T3) : Prop := ∀ T, WTp tp T → WTp tp (f T).2
theorem bd165 {tp : List Int} {l : LN} : Bd tp (p165 tp l) := fun T w => by
  unfold p165 mBW teP
  by_cases q : T.1 = 3 ∧ tA tp T.2.1 = 59
  · rw [if_pos q]; exact (nx_ge w).1
  · rw [if_neg q]; exact w
theorem bdW {tp : List Int} {α : Type} {k : Nat} {f : T3 → Option α × T3} (c : Bd tp f) : Bd tp (fun T => mBW (twP tp k T) f) := fun T w => by
  have a := (tw_ge w (k := k)).1
  show WTp tp (mBW (twP tp k T) f).2
  unfold mBW
  split
  · exact c _ a
  · exact a
theorem bdI {tp : List Int} {α : Type} {lo hi : Int} {f : Int → T3 → Option α × T3} (c : ∀ v, Bd tp (f v)) : Bd tp (fun T => mBI (tiP tp lo hi T) f) := fun T w => by
  have a := (ti_ge w (lo := lo) (hi := hi)).1
  show WTp tp (mBI (tiP tp lo hi T) f).2
  cases z : (tiP tp lo hi T).1 with
  | none => rw [mBI_n z]; exact a
  | some v => rw [mBI_v z]; exact c v _ a
theorem bdR {tp : List Int} {α : Type} {m : Int} {f : List RW → T3 → Option α × T3} (c : ∀ v, Bd tp (f v)) : Bd tp (fun T => mBI (rwP tp m 9 [] T) f) := fun T w => by
  have a := (rw_ge (m := m) 9 [] T w).1
  show WTp tp (mBI (rwP tp m 9 [] T) f).2
  cases z : (rwP tp m 9 [] T).1 with
  | none => rw [mBI_n z]; exact a
  | some v => rw [mBI_v z]; exact c v _ a
theorem bd153 {tp : List Int} {l : LN} : Bd tp (p153 tp l) := fun T w => by
  unfold p153
  split
  · exact bdR (fun rs => bd165) T w
  · exact bd165 T w
theorem bd142 {tp : List Int} {l : LN} : Bd tp (p142 tp l) := fun T w => by
  unfold p142
  split
  · exact bdW bd153 T w
  · exact bd153 T w
theorem bd128 {tp : List Int} {b : Int} {l : LN} : Bd tp (p128 tp b l) := fun T w => by
  unfold p128
  split
  · exact bdR (fun rs => bd142) T w
  · exact bd142 T w
theorem bdGo {tp : List Int} {b : Int} {l : LN} : Bd tp (pGo tp b l) := fun T w => by
  unfold pGo p125
  split
  · exact bd128 T w
  · split
    · exact bdW bd128 T w
    · exact bdW bd128 T w
theorem bd69 {tp : List Int} {b : Int} {l : LN} : Bd tp (p69 tp b l) := fun T w => by
  unfold p69
  split
  · exact bdW (bdI fun p => bdI fun q => bdGo) T w
  · exact bdGo T w
theorem bdLn {tp : List Int} : Bd tp (pLn tp) := fun T w => by
  unfold pLn
  split
  · exact w
  · refine bdI (f := fun n T1 => if stP tp T = 1 then mBW (twP tp 5 T1) fun T2 => mBI (tiP tp 2 999 T2) fun b T3 => p69 tp b ((n, stP tp T, 0, 0), [], []) T3 else p69 tp 0 ((n, stP tp T, 0, 0), [], []) T1) (fun n T1 w1 => ?_) (nxT tp T) (nx_ge w).1
    split
    · exact bdW (bdI fun b => bd69) T1 w1
    · exact bd69 T1 w1
theorem pf_le {tp : List Int} : ∀ (f : Nat) (T : T3) (acc : List LN) (r : Option (List LN)) (T' : T3), WTp tp T → pAll tp f T acc = (r, T') → T'.2.1 ≤ tp.length := by
  intro f
  induction f with
  | zero =>
    intro T acc r T' w e
    unfold pAll at e
    injection e with e1 e2
    subst e2
    have := w.1
    have := w.2.1
    omega
  | succ f ih =>
    intro T acc r T' w e
    unfold pAll at e
    by_cases k0 : T.1 = 0
    · rw [if_pos k0] at e
      injection e with e1 e2
      subst e2
      have := w.1
      have := w.2.1
      omega
    · rw [if_neg k0] at e
      have b := bdLn T w
      cases z : (pLn tp T).1 with
      | none =>
        rw [mBI_n z] at e
        injection e with e1 e2
        subst e2
        have := b.1
        have := b.2.1
        omega
      | some l =>
        rw [mBI_v z] at e
        exact ih _ _ _ _ b e
/-- the reference's lines: those it has, and those told so far -/
def LX (h : AH) (ls acc : List LN) : Prop := hCe h 27 7 = (ls.length : Int) ∧ (∀ i, i < ls.length → LM h i (gl ls i)) ∧ ∀ i, i < acc.length → LM h (ls.length + i) (gl acc i)
theorem LX.fr {h h' : AH} {ls acc : List LN} (L : LX h ls acc) (F : Fr (RKm (ls.length + acc.length)) h h') : LX h' ls acc := by
  obtain ⟨a, b, c⟩ := L
  refine ⟨(F.2 _ _ fun z => by unfold RKm GKr MK at z; omega).trans a, fun i hi => (b i hi).fr F fun x j y z => by unfold RKm GKr MK at z; unfold MK at y; omega, fun i hi => (c i hi).fr F fun x j y z => by unfold RKm GKr MK at z; unfold MK at y; omega⟩
def RZ (b j : Int) : Prop := (b = 27 ∧ 25 ≤ j ∧ j ≤ 30) ∨ (33 ≤ b ∧ b ≤ 43)
theorem RKm.rz {K : Nat} {b j : Int} (z : RKm K b j) : RZ b j := by unfold RKm GKr MK at z; unfold RZ; omega
theorem RZ.mz {b j : Int} (z : RZ b j) : MZ b j := ⟨mutM (by unfold RZ at z; unfold MutM; omega), by unfold RZ at z; omega⟩
def RR2 (tp : List Int) (ls : List LN) (o : Option (Int × AH)) (h : AH) (r : Option (List LN) × T3) : Prop := ∃ h' T w i, o = R_read_52 27 i h' ∧ RQt h' tp T w ∧ Fr RZ h h' ∧ LX h' ls [] ∧ (∀ all, r.1 = some all → w = -1 ∧ i = (all.length : Int) ∧ LX h' ls all ∧ all.length ≤ 50 ∧ ∀ j, j < all.length → okL (gl all j)) ∧ (r.1 = none → w = (r.2.2.1 : Int))
theorem rr_loop2 {tp : List Int} {ls : List LN} (l60 : ls.length ≤ 60) (t4 : tp.length ≤ 400) : ∀ (n f i : Nat) (h : AH) (T : T3) (acc : List LN), i + n = 400 → n + 1 < f → acc.length = i → 8 * acc.length ≤ T.2.1 → RQt h tp T (-1) → LX h ls acc → (∀ j, j < acc.length → okL (gl acc j)) → RR2 tp ls (R_read_21 f 27 i h) h (pAll tp n T acc) := by
  intro n
  induction n with
  | zero =>
    intro f i h T acc hi hf ha g8 R L ok
    exfalso
    have wt := R.2.2.2.2.2.2.2.2
    have := wt.1
    have := wt.2.1
    omega
  | succ n ih =>
    intro f i h T acc hi hf ha g8 R L ok
    obtain ⟨f, rfl, hf⟩ := fu_pos (show 0 < f by omega)
    have H := R.1
    have wt := R.2.2.2.2.2.2.2.2
    have w1 := wt.1
    have w2 := wt.2.1
    have pre : ∀ {r}, (if T.1 = 0 then R_read_52 27 i h else (R_readsLine 27 ((ls.length + acc.length : Nat) : Int) h).bind fun h5 => R_read_21 f 27 ((i + 1 : Nat) : Int) h5) = r → R_read_21 (f + 1) 27 i h = r := by
      rintro r rfl
      conv => lhs; unfold R_read_21
      refine gB H.t27 ?_
      rw [R.2.2.2.2.2.2.2.1]
      refine ifT rfl ?_
      refine gB H.t27 ?_
      rw [R.2.2.1]
      by_cases k0 : T.1 = 0
      · rw [if_pos k0]
        exact ifT (rtk_0.mpr k0) rfl
      · rw [if_neg k0]
        refine ifF (fun y => k0 (rtk_0.mp y)) ?_
        refine gB H.t27 ?_
        rw [L.1, w32_e (z := (ls.length : Int) + i) (by omega), w32_e (z := (i : Int) + 1) (by omega), show (ls.length : Int) + i = ((ls.length + acc.length : Nat) : Int) by omega]
        exact gB H.t27 rfl
    rw [pre rfl]
    unfold pAll
    by_cases k0 : T.1 = 0
    · rw [if_pos k0, if_pos k0]
      exact ⟨h, T, -1, i, rfl, R, Fr.rf, ⟨L.1, L.2.1, fun j hj => absurd hj (Nat.not_lt_zero j)⟩, fun all z => (by injection z with z; subst z; exact ⟨rfl, by omega, L, by omega, ok⟩), fun z => (by cases z)⟩
    · rw [if_neg k0, if_neg k0]
      obtain ⟨h1, e1, F1, a, b⟩ := s_readsLine (tp := tp) (K := ls.length + acc.length) (by omega) R
      have L1 := L.fr F1
      rw [e1, Option.bind_some]
      cases c : (pLn tp T).1 with
      | none =>
        rw [mBI_n c]
        have R1 := b c
        refine ⟨h1, (pLn tp T).2, (((pLn tp T).2.2.1 : Nat) : Int), ((i + 1 : Nat) : Int), ?_, R1, F1.mo fun b j => RKm.rz, ⟨L1.1, L1.2.1, fun j hj => absurd hj (Nat.not_lt_zero j)⟩, fun all z => (by cases z), fun _ => rfl⟩
        obtain ⟨f, rfl, hf⟩ := fu_pos (show 0 < f by omega)
        unfold R_read_21
        refine gB R1.1.t27 ?_
        exact ifF R1.dead rfl
      | some l =>
        rw [mBI_v c]
        obtain ⟨R1, LK1⟩ := a l c
        have e0 : pLn tp T = (some l, (pLn tp T).2) := Prod.ext c rfl
        have far := pLn_far wt e0
        have okl := pLn_ok e0
        have la : (acc ++ [l]).length = acc.length + 1 := by rw [List.length_append]; rfl
        have key : ∀ j, j < (acc ++ [l]).length → LM h1 (ls.length + j) (gl (acc ++ [l]) j) ∧ okL (gl (acc ++ [l]) j) := by
          intro j hj
          rw [la] at hj
          rw [gl_appL hj]
          by_cases q : j = acc.length
          · rw [if_pos q, q]; exact ⟨LK1, okl⟩
          · rw [if_neg q]; exact ⟨L1.2.2 j (by omega), ok j (by omega)⟩
        obtain ⟨h2, T2, w, i2, e2, R2, F2, o, x, y⟩ := ih f (i + 1) h1 (pLn tp T).2 (acc ++ [l]) (by omega) (by omega) (by omega) (by omega) R1 ⟨L1.1, L1.2.1, fun j hj => (key j hj).1⟩ fun j hj => (key j hj).2
        exact ⟨h2, T2, w, i2, e2, R2, (F1.mo fun b j => RKm.rz).tr F2, o, x, y⟩
theorem r_read {ls : List LN} {tp : List Int} : rC (fun h => R_read 27 h) ls tp (rdV ls (pAll tp 400 (T0 tp) [])) (rdL ls (pAll tp 400 (T0 tp) [])) [] := fun h m => by
  have H := m.1
  have l60 := m.2.1.2.1
  have t := m.2.2
  have F0 : Fr GKr h (hSet (hSet (hSet h 27 29 0) 27 25 3) 27 30 (-1)) := ((Fr.set ⟨rfl, by omega, by omega⟩).setT ⟨rfl, by omega, by omega⟩).setT ⟨rfl, by omega, by omega⟩
  have H0 := H.g F0
  obtain ⟨h1, e1, R1, F1⟩ := s_goesOn H0 (TP.g t F0) (k := 3) ((cN (by omega)).trans (cS _ _ _ _)) (e := 0) ((cN (by omega)).trans ((cN (by omega)).trans (cS _ _ _ _))) (Nat.zero_le _) (w := -1) (cS _ _ _ _)
  have FF := F0.tr F1
  have L1 : LX h1 ls [] := ⟨(FF.2 _ _ fun z => by unfold GKr at z; omega).trans m.2.1.1, fun i hi => (m.2.1.2.2 i hi).1.gk FF, fun i hi => absurd hi (Nat.not_lt_zero i)⟩
  obtain ⟨h2, T2, w, i2, e2, R2, F2, o, x, y⟩ := rr_loop2 l60 t.2.1 400 FU 0 h1 (T0 tp) [] (by omega) (fu_big (by omega)) rfl (Nat.zero_le _) R1 L1 fun j hj => absurd hj (Nat.not_lt_zero j)
  have H2 := R2.1
  have pre : ∀ {r}, R_read_52 27 i2 h2 = r → R_read 27 h = r := by
    rintro r rfl
    rw [← e2]
    unfold R_read
    refine gB H.t27 ?_
    refine gB H.t27 ?_
    refine gB H.t27 ?_
    refine gB H.t27 ?_
    exact cB e1 rfl
  have F3 : Fr (fun b j => b = 27 ∧ j = 24) h2 (hSet h2 27 24 0) := Fr.set ⟨rfl, rfl⟩
  have q3 : ∀ b j : Int, b = 27 ∧ j = 24 → Mut b j := fun b j z => mutM (by unfold MutM; omega)
  have H3 := H2.fr F3 q3
  have FA : Fr MZ h (hSet h2 27 24 0) := (FF.mo fun b j z => ⟨z.mut, by unfold GKr at z; omega⟩).tr ((F2.mo fun b j => RZ.mz).tr (F3.mo fun b j z => ⟨q3 b j z, by omega⟩))
  have c30 : hCe (hSet h2 27 24 0) 27 30 = w := (cN (by omega)).trans R2.2.2.2.2.2.2.2.1
  have r52 : ∀ {r}, (if w = -1 then ((gd (hTy (hSet h2 27 24 0) 27 = 10) (hCe (hSet h2 27 24 0) 27 7)).bind fun u3 => if (60 : Int) < (w32 (u3 + i2)) then some ((-3), hSet h2 27 24 0) else (gd (hTy (hSet h2 27 24 0) 27 = 10) (hCe (hSet h2 27 24 0) 27 7)).bind fun u4 => (gd (hTy (hSet h2 27 24 0) 27 = 10) (hSet (hSet h2 27 24 0) 27 7 (w32 (u4 + i2)))).bind fun h5 => some (i2, h5)) else some (w32 ((-4) - w), hSet h2 27 24 0)) = r → R_read 27 h = r := by
    rintro r rfl
    refine pre ?_
    unfold R_read_52
    refine gB H2.t27 ?_
    refine gB H3.t27 ?_
    rw [c30]
    by_cases z : w = -1
    · rw [if_pos z, if_pos z]
    · rw [if_neg z, if_neg z]
      refine gB H3.t27 ?_
      rfl
  have MSx : ∀ {h' : AH} {ls' : List LN}, Sh h' → MD h' ls' → hCe h' 27 24 = 0 → MS h' ls' [] := fun {h' ls'} a b c => ⟨a, b, c, by decide, (fun x hx => absurd hx List.not_mem_nil), fun i hi => absurd hi (Nat.not_lt_zero i)⟩
  have MD0 : MD (hSet h2 27 24 0) ls := ⟨(cN (by omega)).trans o.1, l60, fun i hi => ⟨(o.2.1 i hi).fr F3 fun b j z1 z2 => by unfold MK at z1; omega, (m.2.1.2.2 i hi).2⟩⟩
  rcases c : pAll tp 400 (T0 tp) [] with ⟨_ | all, T'⟩
  · rw [c] at y
    have w0 : w = (T'.2.1 : Int) := y rfl
    have wt := R2.2.2.2.2.2.2.2.2
    have t4 : T'.2.1 ≤ 400 := by
      have k := pf_le (tp := tp) 400 (T0 tp) [] none T' (adv_wt (Nat.zero_le _)) c
      have := t.2.1
      omega
    refine ⟨hSet h2 27 24 0, r52 ((if_neg (by omega)).trans ?_), MSx H3 MD0 (cS _ _ _ _), FA⟩
    rw [w32_e (by omega), w0]
    rfl
  · rw [c] at x
    obtain ⟨w0, i0, LA, a50, okA⟩ := x all rfl
    have c7 : hCe (hSet h2 27 24 0) 27 7 = (ls.length : Int) := (cN (by omega)).trans o.1
    have pre2 : ∀ {r}, (if 60 < ls.length + all.length then some ((-3 : Int), hSet h2 27 24 0) else some ((all.length : Int), hSet (hSet h2 27 24 0) 27 7 ((ls.length + all.length : Nat) : Int))) = r → R_read 27 h = r := by
      rintro r rfl
      refine r52 ((if_pos w0).trans ?_)
      refine gB H3.t27 ?_
      rw [c7, i0, w32_e (z := (ls.length : Int) + all.length) (by omega)]
      by_cases big : 60 < ls.length + all.length
      · rw [if_pos big]; exact ifT (by omega) rfl
      · rw [if_neg big]
        refine ifF (by omega) ?_
        refine gB H3.t27 ?_
        rw [w32_e (z := (ls.length : Int) + all.length) (by omega), show (ls.length : Int) + all.length = ((ls.length + all.length : Nat) : Int) by omega]
        exact gB H3.t27 rfl
    show ∃ h', R_read 27 h = some (if 60 < ls.length + all.length then -3 else (all.length : Int), h') ∧ MS h' (if 60 < ls.length + all.length then ls else ls ++ all) [] ∧ Fr MZ h h'
    by_cases big : 60 < ls.length + all.length
    · rw [if_pos big, if_pos big]
      rw [if_pos big] at pre2
      exact ⟨_, pre2 rfl, MSx H3 MD0 (cS _ _ _ _), FA⟩
    · rw [if_neg big, if_neg big]
      rw [if_neg big] at pre2
      have F4 : Fr (fun b j => b = 27 ∧ j = 7) (hSet h2 27 24 0) (hSet (hSet h2 27 24 0) 27 7 ((ls.length + all.length : Nat) : Int)) := Fr.set ⟨rfl, rfl⟩
      have q4 : ∀ b j : Int, b = 27 ∧ j = 7 → Mut b j := fun b j z => mutM (by unfold MutM; omega)
      refine ⟨_, pre2 rfl, MSx (H3.fr F4 q4) ⟨?_, by rw [List.length_append]; omega, fun i hi => ?_⟩ ((cN (by omega)).trans (cS _ _ _ _)), FA.tr (F4.mo fun b j z => ⟨q4 b j z, by omega⟩)⟩
      · rw [cS, List.length_append]
      · rw [List.length_append] at hi
        by_cases q : i < ls.length
        · have e : gl (ls ++ all) i = gl ls i := by
            unfold gl
            rw [List.getD_eq_getElem?_getD, List.getD_eq_getElem?_getD, List.getElem?_append_left q]
          rw [e]
          exact ⟨((MD0.2.2 i q).1).fr F4 fun b j z1 z2 => by unfold MK at z1; omega, (m.2.1.2.2 i q).2⟩
        · have e : gl (ls ++ all) i = gl all (i - ls.length) := by
            unfold gl
            rw [List.getD_eq_getElem?_getD, List.getD_eq_getElem?_getD, List.getElem?_append_right (by omega)]
          have k := LA.2.2 (i - ls.length) (by omega)
          rw [show ls.length + (i - ls.length) = i by omega] at k
          rw [e]
          exact ⟨((k.fr F3 fun b j z1 z2 => by unfold MK at z1; omega)).fr F4 fun b j z1 z2 => by unfold MK at z1; omega, okA _ (by omega)⟩
theorem q_read (hM : MRok) : sim (fun h => X_read 0 h) (fun h => R_read 27 h) := mk_sim fun ls tp ok => ⟨_, _, _, x_read hM ok.2.2.1, r_read⟩
