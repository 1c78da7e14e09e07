/-! how far a line reaches; all lines of a tape; the class reads them twice -/
section FAR
variable {tp : List Int}
theorem nx_ge {T : T3} (w : WTp tp T) : WTp tp (nxT tp T) ∧ T.2.2 ≤ (nxT tp T).2.1 ∧ (jn T.1 = true → (nxT tp T).1 = 1 ∨ (nxT tp T).1 = 2 → T.2.2 < (nxT tp T).2.1) := ⟨adv_wt w.2.1, adv_ge w.2.1⟩
theorem tw_ge {T : T3} (w : WTp tp T) {k : Nat} : WTp tp (twP tp k T).2 ∧ T.2.2 ≤ (twP tp k T).2.2.2 := by
  unfold twP
  split
  · have := nx_ge w
    exact ⟨this.1, by have := this.1.1; show T.2.2 ≤ (nxT tp T).2.2; omega⟩
  · exact ⟨w, Nat.le_refl _⟩
theorem ti_ge {T : T3} (w : WTp tp T) {lo hi : Int} : WTp tp (tiP tp lo hi T).2 ∧ T.2.2 ≤ (tiP tp lo hi T).2.2.2 := by
  unfold tiP
  split
  · have := nx_ge w
    exact ⟨this.1, by have := this.1.1; show T.2.2 ≤ (nxT tp T).2.2; omega⟩
  · exact ⟨w, Nat.le_refl _⟩
theorem rw_ge {m : Int} : ∀ (n : Nat) (l : List RW) (T : T3), WTp tp T → WTp tp (rwP tp m n l T).2 ∧ T.2.2 ≤ (rwP tp m n l T).2.2.2 := by
  intro n
  induction n with
  | zero =>
    intro l T w
    unfold rwP
    split <;> exact ⟨w, Nat.le_refl _⟩
  | succ n ih =>
    intro l T w
    unfold rwP
    by_cases k2 : T.1 = 2
    · rw [if_pos k2]
      have a1 := ti_ge w (lo := 2) (hi := 1000000000)
      rcases c1 : tiP tp 2 1000000000 T with ⟨_ | q, T1⟩
      · rw [c1] at a1; exact a1
      rw [c1] at a1
      have a2 := ti_ge a1.1 (lo := 1) (hi := 30)
      dsimp only at a1 a2 ⊢
      rcases c2 : tiP tp 1 30 T1 with ⟨_ | x, T2⟩
      · rw [c2] at a2; exact ⟨a2.1, Nat.le_trans a1.2 a2.2⟩
      rw [c2] at a2
      dsimp only at a2 ⊢
      by_cases m1 : m = -1
      · rw [if_pos m1]
        have a3 := ti_ge a2.1 (lo := 2) (hi := 999)
        rcases c3 : tiP tp 2 999 T2 with ⟨_ | b, T3'⟩
        · rw [c3] at a3; exact ⟨a3.1, Nat.le_trans a1.2 (Nat.le_trans a2.2 a3.2)⟩
        rw [c3] at a3
        have a4 := ih (l ++ [(q, x, b)]) T3' a3.1
        exact ⟨a4.1, Nat.le_trans a1.2 (Nat.le_trans a2.2 (Nat.le_trans a3.2 a4.2))⟩
      · rw [if_neg m1]
        have a4 := ih (l ++ [(q, x, m)]) T2 a2.1
        exact ⟨a4.1, Nat.le_trans a1.2 (Nat.le_trans a2.2 a4.2)⟩
    · rw [if_neg k2]; exact ⟨w, Nat.le_refl _⟩
/-- a piece of the reading that, where it ends well, goes beyond where it began -/
def Fw (tp : List Int) {α : Type} (f : T3 → Option α × T3) : Prop := ∀ T x T', WTp tp T → f T = (some x, T') → WTp tp T' ∧ T.2.2 ≤ T'.2.1
theorem fw165 {l : LN} : Fw tp (p165 tp l) := fun T x T' w e => by
  obtain ⟨-, -, rfl⟩ := p165_s e
  have := nx_ge w
  exact ⟨this.1, this.2.1⟩
theorem fwW {k : Nat} {f : T3 → Option LN × T3} (c : Fw tp f) : Fw tp (fun T => mBW (twP tp k T) f) := fun T x T' w e => by
  obtain ⟨-, e⟩ := mBW_s e
  have a := tw_ge w (k := k)
  have b := c _ x T' a.1 e
  exact ⟨b.1, Nat.le_trans a.2 b.2⟩
theorem fwI {lo hi : Int} {f : Int → T3 → Option LN × T3} (c : ∀ v, Fw tp (f v)) : Fw tp (fun T => mBI (tiP tp lo hi T) f) := fun T x T' w e => by
  obtain ⟨v, -, e⟩ := mBI_s e
  have a := ti_ge w (lo := lo) (hi := hi)
  have b := c v _ x T' a.1 e
  exact ⟨b.1, Nat.le_trans a.2 b.2⟩
theorem fwR {m : Int} {f : List RW → T3 → Option LN × T3} (c : ∀ v, Fw tp (f v)) : Fw tp (fun T => mBI (rwP tp m 9 [] T) f) := fun T x T' w e => by
  obtain ⟨v, -, e⟩ := mBI_s e
  have a := rw_ge (m := m) 9 [] T w
  have b := c v _ x T' a.1 e
  exact ⟨b.1, Nat.le_trans a.2 b.2⟩
theorem fw153 {l : LN} : Fw tp (p153 tp l) := fun T x T' w e => by
  unfold p153 at e
  split at e
  · exact fwR (fun rs => fw165) T x T' w e
  · exact fw165 T x T' w e
theorem fw142 {l : LN} : Fw tp (p142 tp l) := fun T x T' w e => by
  unfold p142 at e
  split at e
  · exact fwW fw153 T x T' w e
  · exact fw153 T x T' w e
theorem fw128 {b : Int} {l : LN} : Fw tp (p128 tp b l) := fun T x T' w e => by
  unfold p128 at e
  split at e
  · exact fwR (fun rs => fw142) T x T' w e
  · exact fw142 T x T' w e
theorem fwGo {b : Int} {l : LN} : Fw tp (pGo tp b l) := fun T x T' w e => by
  unfold pGo p125 at e
  split at e
  · exact fw128 T x T' w e
  · split at e
    · exact fwW fw128 T x T' w e
    · exact fwW fw128 T x T' w e
theorem fw69 {b : Int} {l : LN} : Fw tp (p69 tp b l) := fun T x T' w e => by
  unfold p69 at e
  split at e
  · exact fwW (fwI fun p => fwI fun q => fwGo) T x T' w e
  · exact fwGo T x T' w e
/-- a first word of a line that goes on by a word -/
theorem fwH {k : Nat} {f : T3 → Option LN × T3} (c : Fw tp f) {T : T3} {x : LN} {T' : T3} (w : WTp tp T) (e : mBW (twP tp k T) f = (some x, T')) : WTp tp T' ∧ T.2.1 + 1 ≤ T'.2.1 ∧ T.1 = 1 := by
  obtain ⟨e1, e⟩ := mBW_s e
  have k1 := (twP_s e1).1
  have a := tw_ge w (k := k)
  have b := c _ x T' a.1 e
  have d := w.2.2.2.1 (by omega)
  exact ⟨b.1, by omega, k1⟩
theorem wd_l4 : ∀ k : Nat, k < 5 → 4 ≤ (wdR k).length ∧ (k = 0 → 5 ≤ (wdR k).length) := by decide
/-- eight signs at least -/
theorem pLn_far {T T' : T3} {l : LN} (w : WTp tp T) (e : pLn tp T = (some l, T')) : WTp tp T' ∧ T.2.1 + 8 ≤ T'.2.1 := by
  unfold pLn at e
  by_cases z : stP tp T = -1
  · rw [if_pos z] at e; injection e with e1 e2; cases e1
  rw [if_neg z] at e
  obtain ⟨n, en, e⟩ := mBI_s e
  have en' := tiP_v en
  have w1 := nx_ge w
  have w2 := nx_ge w1.1
  rw [en'.2.2.2.2.2] at e
  have c1 : T.1 = 1 ∧ wx (sl tp T.2.1 T.2.2) < 5 ∧ stP tp T = ((wx (sl tp T.2.1 T.2.2) : Nat) : Int) := by
    unfold stP at z ⊢
    by_cases q : T.1 = 1 ∧ wx (sl tp T.2.1 T.2.2) < 5
    · rw [if_pos q]; exact ⟨q.1, q.2, rfl⟩
    · rw [if_neg q] at z; exact absurd rfl z
  have sw := (wx_iff (x := sl tp T.2.1 T.2.2) (k := wx (sl tp T.2.1 T.2.2)) (by omega)).mpr rfl
  have sL := sl_len w.1 w.2.1
  rw [sw] at sL
  have l4 := wd_l4 _ c1.2.1
  have g1 := w1.2.2 (decide_eq_true (Or.inl c1.1)) (Or.inr en'.2.2.1)
  have g2 := w1.1.2.2.2.1 (by omega)
  have g3 := w2.2.1
  have j2 : jn (nxT tp T).1 = true := decide_eq_true (Or.inr en'.2.2.1)
  have tl := w.1
  have fin : ∀ {k : Nat} {f : T3 → Option LN × T3}, Fw tp f → mBW (twP tp k (nxT tp (nxT tp T))) f = (some l, T') → WTp tp T' ∧ T.2.1 + 8 ≤ T'.2.1 := by
    intro k f c e
    have h := fwH c w2.1 e
    have g4 := w2.2.2 j2 (Or.inl h.2.2)
    have h1 := (mBW_s e).1
    have tw := (twP_s h1).2.2
    have w3 := nx_ge w2.1
    have g5 := w2.1.2.2.2.1 (by omega)
    have e' := (mBW_s e).2
    rw [tw] at e'
    have b := c _ l T' w3.1 e'
    have := w3.1.1
    exact ⟨b.1, by omega⟩
  by_cases s1 : stP tp T = 1
  · rw [if_pos s1] at e
    exact fin (fwI fun b => fw69) e
  rw [if_neg s1] at e
  unfold p69 at e
  by_cases s3 : stP tp T = 3 ∨ stP tp T = 4
  · rw [if_pos s3] at e
    exact fin (fwI fun p => fwI fun q => fwGo) e
  rw [if_neg s3] at e
  unfold pGo p125 at e
  by_cases s0 : stP tp T = 0
  · rw [if_pos s0] at e
    unfold p128 at e
    rw [if_neg (show ¬ (stP tp T = 1 ∨ stP tp T = 2 ∨ stP tp T = 4) by omega)] at e
    unfold p142 at e
    rw [if_neg (show ¬ stP tp T = 4 by omega)] at e
    unfold p153 at e
    rw [if_neg s3] at e
    obtain ⟨-, k3, rfl⟩ := p165_s e
    have w3 := nx_ge w2.1
    have g5 := w2.1.2.2.2.1 (by omega)
    have := l4.2 (by omega)
    exact ⟨w3.1, by omega⟩
  · rw [if_neg s0, if_neg (show ¬ stP tp T = 4 by omega)] at e
    exact fin fw128 e
end FAR
def T0 (tp : List Int) : T3 := adv tp false 0
/-- told lines fill eight signs each -/
theorem pAll_few {tp : List Int} : ∀ (f : Nat) (T : T3) (acc : List LN) (ls : List LN) (T' : T3), WTp tp T → 8 * acc.length ≤ T.2.1 → pAll tp f T acc = (some ls, T') → 8 * ls.length ≤ tp.length ∧ acc.length ≤ ls.length := by
  intro f
  induction f with
  | zero =>
    intro T acc ls T' w h e
    unfold pAll at e
    injection e with e1 e2
    injection e1 with e1
    subst e1
    have := w.1
    have := w.2.1
    exact ⟨by omega, Nat.le_refl _⟩
  | succ f ih =>
    intro T acc ls T' w h e
    unfold pAll at e
    by_cases k0 : T.1 = 0
    · rw [if_pos k0] at e
      injection e with e1 e2
      injection e1 with e1
      subst e1
      have := w.1
      have := w.2.1
      exact ⟨by omega, Nat.le_refl _⟩
    · rw [if_neg k0] at e
      obtain ⟨l, el, e⟩ := mBI_s e
      have far := pLn_far w el
      have := ih _ _ _ _ far.1 (by rw [List.length_append]; show 8 * (acc.length + 1) ≤ _; omega) e
      rw [List.length_append] at this
      exact ⟨this.1, by have := this.2; omega⟩
/-! the first time -/
def anP (r : Option (List LN) × T3) : Int := match r.1 with
  | some ls => (ls.length : Int)
  | none => -4 - (r.2.2.1 : Int)
theorem pf_loop {tp : List Int} (l4 : tp.length ≤ 400) : ∀ (n f i : Nat) (h : AH) (T : T3) (acc : List LN), i + n = 400 → n < f → acc.length = i → RD h tp T → ∃ h' T', Reader_pass_18 f 16 0 i i h = some (anP (pAll tp n T acc), h') ∧ RD h' tp T' ∧ Fr RKd h h' := by
  intro n
  induction n with
  | zero =>
    intro f i h T acc hi hf ha R
    obtain ⟨f, rfl, -⟩ := fu_pos hf
    refine ⟨h, T, ?_, R, Fr.rf⟩
    unfold Reader_pass_18 pAll anP
    refine ifF (by omega) ?_
    show some ((i : Int), h) = some ((acc.length : Int), h)
    rw [ha]
  | succ n ih =>
    intro f i h T acc hi hf ha R
    obtain ⟨f, rfl, hf⟩ := fu_pos hf
    have H := R.1
    have pre : ∀ {r}, (if T.1 = 0 then some ((i : Int), h) else (Reader_tellLine 16 h).bind fun u2 => if u2.1 = 0 then (gd (hTy u2.2 16 = 5) (hCe u2.2 16 4)).bind fun u3 => some (w32 ((-4) - u3), u2.2) else Reader_pass_18 f 16 0 ((i + 1 : Nat) : Int) ((i + 1 : Nat) : Int) u2.2) = r → Reader_pass_18 (f + 1) 16 0 i i h = r := by
      rintro r rfl
      conv => lhs; unfold Reader_pass_18
      refine ifT (by omega) ?_
      refine gB H.t16 ?_
      rw [R.2.2.1, w32_e (z := (i : Int) + 1) (by omega)]
      by_cases k0 : T.1 = 0
      · rw [if_pos k0, if_pos k0]
      · rw [if_neg k0, if_neg k0]
        exact gB H.t16 rfl
    unfold pAll
    by_cases k0 : T.1 = 0
    · rw [if_pos k0]
      refine ⟨h, T, pre ((if_pos k0).trans ?_), R, Fr.rf⟩
      show some ((i : Int), h) = some ((acc.length : Int), h)
      rw [ha]
    · rw [if_neg k0]
      obtain ⟨h1, e1, R1, F1, -⟩ := s_tellLine R
      rcases c : pLn tp T with ⟨_ | l, T1⟩
      · rw [c] at e1 R1
        refine ⟨h1, T1, pre ((if_neg k0).trans (cB e1 (ifT rfl ?_))), R1, F1⟩
        refine gB R1.1.t16 ?_
        have w1 := R1.2.2.2.2.2.1
        have w2 := R1.2.2.2.2.2.2.1
        rw [R1.2.2.2.1, w32_e (by omega)]
        rfl
      · rw [c] at e1 R1
        obtain ⟨h2, T2, e2, R2, F2⟩ := ih f (i + 1) h1 T1 (acc ++ [l]) (by omega) (by omega) (by rw [List.length_append, ha]; rfl) R1
        refine ⟨h2, T2, pre ((if_neg k0).trans (cB e1 (ifF one_ne ?_))), R2, F1.tr F2⟩
        exact e2
theorem RKd.q {b j : Int} (z : RKd b j) : Mut b j ∧ 16 ≤ b ∧ b ≤ 21 := ⟨z.mut, by unfold RKd AKr LK SK at z; omega⟩
/-- from the beginning -/
theorem s_begins2 {h : AH} (H : Sh h) {tp : List Int} (t : TP h 14 1 15 tp) : ∃ h', ((gd (hTy h 16 = 5) (hSet h 16 3 3)).bind fun h1 => (gd (hTy h1 16 = 5) (hSet h1 16 5 0)).bind fun h2 => (gd (hTy h2 16 = 5) 0).bind fun _ => Reader_advance 16 h2) = some h' ∧ RD h' tp (T0 tp) ∧ Fr RKd h h' := by
  have F0 : Fr AKr h (hSet (hSet h 16 3 3) 16 5 0) := (Fr.set ⟨rfl, by omega⟩).setT ⟨rfl, by omega⟩
  have H0 := H.fr F0 fun b j => AKr.mut
  have t0 := t.fr F0 (by unfold AKr; omega) fun j => by unfold AKr; omega
  obtain ⟨h', e, R, F⟩ := s_advance H0 t0 (k := 3) ((cN (by omega)).trans (cS _ _ _ _)) (e := 0) (cS _ _ _ _) (by omega)
  refine ⟨h', ?_, R, (F0.tr F).mo fun b j z => Or.inl z⟩
  refine gB H.t16 ?_
  refine gB H.t16 ?_
  refine gB H.t16 ?_
  exact e
theorem s_passF {h : AH} (H : Sh h) {tp : List Int} (t : TP h 14 1 15 tp) : ∃ h', Reader_pass 16 0 h = some (anP (pAll tp 400 (T0 tp) []), h') ∧ Fr RKd h h' := by
  obtain ⟨h1, e1, R1, F1⟩ := s_begins2 H t
  obtain ⟨h2, T2, e2, R2, F2⟩ := pf_loop t.2.1 400 FU 0 h1 (T0 tp) [] (by omega) (fu_big (by omega)) rfl R1
  refine ⟨h2, ?_, F1.tr F2⟩
  unfold Reader_pass
  have e3 : ((gd (hTy h 16 = 5) (hSet h 16 3 3)).bind fun h1 => (gd (hTy h1 16 = 5) (hSet h1 16 5 0)).bind fun h2 => (gd (hTy h2 16 = 5) 0).bind fun _ => (Reader_advance 16 h2).bind fun h4 => Reader_pass_18 FU 16 0 0 0 h4) = (((gd (hTy h 16 = 5) (hSet h 16 3 3)).bind fun h1 => (gd (hTy h1 16 = 5) (hSet h1 16 5 0)).bind fun h2 => (gd (hTy h2 16 = 5) 0).bind fun _ => Reader_advance 16 h2).bind fun h4 => Reader_pass_18 FU 16 0 0 0 h4) := by simp only [Option.bind_assoc]
  rw [e3]
  exact cB e1 e2
